section
-- ===== PART A: goes FIRST, ahead of the names: the tables' words, and 'selects' of the private methods out of them =====
/-- a private method of a class that the tables say can be made, by its rows of tables_1 -/
def lw_okq (q : MethodName × Nat) : Prop := (q.1.cls ≠ "java/lang/invoke/MethodHandle" ∧ q.1.cls ≠ "java/lang/invoke/VarHandle") ∧ Cond.instantiable q.1.cls q.2 ∈ tables_1 ∧ Cond.privateMethod q.1 ∈ tables_1 ∧ Cond.instanceMethod q.1 ∈ tables_1
theorem lw_p0 : lw_okq (⟨"ReversedLinks", "wayTo", "(II)I"⟩, 8) := ⟨⟨by decide +kernel, by decide +kernel⟩, List.mem_of_getElem? (i := 15) (by decide +kernel), List.mem_of_getElem? (i := 330) (by decide +kernel), List.mem_of_getElem? (i := 331) (by decide +kernel)⟩
theorem lw_p1 : lw_okq (⟨"ReversedLinks$Marking", "placeOf", "(I)I"⟩, 15) := ⟨⟨by decide +kernel, by decide +kernel⟩, List.mem_of_getElem? (i := 68) (by decide +kernel), List.mem_of_getElem? (i := 409) (by decide +kernel), List.mem_of_getElem? (i := 410) (by decide +kernel)⟩
theorem lw_p2 : lw_okq (⟨"ReversedLinks$Marking", "turnedAt", "(I)Z"⟩, 15) := ⟨⟨by decide +kernel, by decide +kernel⟩, List.mem_of_getElem? (i := 68) (by decide +kernel), List.mem_of_getElem? (i := 413) (by decide +kernel), List.mem_of_getElem? (i := 414) (by decide +kernel)⟩
theorem lw_p3 : lw_okq (⟨"ReversedLinks$Text", "take", "(ILReversedLinks$Graph;I)Z"⟩, 9) := ⟨⟨by decide +kernel, by decide +kernel⟩, List.mem_of_getElem? (i := 179) (by decide +kernel), List.mem_of_getElem? (i := 489) (by decide +kernel), List.mem_of_getElem? (i := 490) (by decide +kernel)⟩
theorem lw_p4 : lw_okq (⟨"ReversedLinks$Text", "goOn", "(I)Z"⟩, 9) := ⟨⟨by decide +kernel, by decide +kernel⟩, List.mem_of_getElem? (i := 179) (by decide +kernel), List.mem_of_getElem? (i := 493) (by decide +kernel), List.mem_of_getElem? (i := 494) (by decide +kernel)⟩
theorem lw_p5 : lw_okq (⟨"ReversedLinks$Text", "wantMore", "()Z"⟩, 9) := ⟨⟨by decide +kernel, by decide +kernel⟩, List.mem_of_getElem? (i := 179) (by decide +kernel), List.mem_of_getElem? (i := 497) (by decide +kernel), List.mem_of_getElem? (i := 498) (by decide +kernel)⟩
theorem lw_p6 : lw_okq (⟨"ReversedLinks$Text", "close", "()Z"⟩, 9) := ⟨⟨by decide +kernel, by decide +kernel⟩, List.mem_of_getElem? (i := 179) (by decide +kernel), List.mem_of_getElem? (i := 501) (by decide +kernel), List.mem_of_getElem? (i := 502) (by decide +kernel)⟩
theorem lw_p7 : lw_okq (⟨"ReversedLinks$Text", "isRowJustOpened", "()Z"⟩, 9) := ⟨⟨by decide +kernel, by decide +kernel⟩, List.mem_of_getElem? (i := 179) (by decide +kernel), List.mem_of_getElem? (i := 505) (by decide +kernel), List.mem_of_getElem? (i := 506) (by decide +kernel)⟩
theorem lw_p8 : lw_okq (⟨"ReversedLinks$Text", "open", "(ILReversedLinks$Graph;)Z"⟩, 9) := ⟨⟨by decide +kernel, by decide +kernel⟩, List.mem_of_getElem? (i := 179) (by decide +kernel), List.mem_of_getElem? (i := 509) (by decide +kernel), List.mem_of_getElem? (i := 510) (by decide +kernel)⟩
theorem lw_p9 : lw_okq (⟨"ReversedLinks$Text", "put", "(ILReversedLinks$Graph;)Z"⟩, 9) := ⟨⟨by decide +kernel, by decide +kernel⟩, List.mem_of_getElem? (i := 179) (by decide +kernel), List.mem_of_getElem? (i := 515) (by decide +kernel), List.mem_of_getElem? (i := 516) (by decide +kernel)⟩
theorem lw_p10 : lw_okq (⟨"ReversedLinks$Marking", "setOut", "(LReversedLinks$Graph;)V"⟩, 15) := ⟨⟨by decide +kernel, by decide +kernel⟩, List.mem_of_getElem? (i := 68) (by decide +kernel), List.mem_of_getElem? (i := 541) (by decide +kernel), List.mem_of_getElem? (i := 542) (by decide +kernel)⟩
theorem lw_p11 : lw_okq (⟨"ReversedLinks$Marking", "mark", "(I)V"⟩, 15) := ⟨⟨by decide +kernel, by decide +kernel⟩, List.mem_of_getElem? (i := 68) (by decide +kernel), List.mem_of_getElem? (i := 547) (by decide +kernel), List.mem_of_getElem? (i := 548) (by decide +kernel)⟩
theorem lw_p12 : lw_okq (⟨"ReversedLinks$Marking", "putCount", "(II)V"⟩, 15) := ⟨⟨by decide +kernel, by decide +kernel⟩, List.mem_of_getElem? (i := 68) (by decide +kernel), List.mem_of_getElem? (i := 551) (by decide +kernel), List.mem_of_getElem? (i := 552) (by decide +kernel)⟩
theorem lw_p13 : lw_okq (⟨"ReversedLinks$Marking", "goOn", "(LReversedLinks$Graph;)V"⟩, 15) := ⟨⟨by decide +kernel, by decide +kernel⟩, List.mem_of_getElem? (i := 68) (by decide +kernel), List.mem_of_getElem? (i := 557) (by decide +kernel), List.mem_of_getElem? (i := 558) (by decide +kernel)⟩
theorem lw_p14 : lw_okq (⟨"ReversedLinks$Marking", "goDown", "(I)V"⟩, 15) := ⟨⟨by decide +kernel, by decide +kernel⟩, List.mem_of_getElem? (i := 68) (by decide +kernel), List.mem_of_getElem? (i := 562) (by decide +kernel), List.mem_of_getElem? (i := 563) (by decide +kernel)⟩
theorem lw_p15 : lw_okq (⟨"ReversedLinks$Marking", "comeUp", "()V"⟩, 15) := ⟨⟨by decide +kernel, by decide +kernel⟩, List.mem_of_getElem? (i := 68) (by decide +kernel), List.mem_of_getElem? (i := 569) (by decide +kernel), List.mem_of_getElem? (i := 570) (by decide +kernel)⟩
def lw_privs_1 : List (MethodName × Nat) := [(⟨"ReversedLinks", "wayTo", "(II)I"⟩, 8), (⟨"ReversedLinks$Marking", "placeOf", "(I)I"⟩, 15), (⟨"ReversedLinks$Marking", "turnedAt", "(I)Z"⟩, 15), (⟨"ReversedLinks$Text", "take", "(ILReversedLinks$Graph;I)Z"⟩, 9), (⟨"ReversedLinks$Text", "goOn", "(I)Z"⟩, 9), (⟨"ReversedLinks$Text", "wantMore", "()Z"⟩, 9), (⟨"ReversedLinks$Text", "close", "()Z"⟩, 9), (⟨"ReversedLinks$Text", "isRowJustOpened", "()Z"⟩, 9), (⟨"ReversedLinks$Text", "open", "(ILReversedLinks$Graph;)Z"⟩, 9), (⟨"ReversedLinks$Text", "put", "(ILReversedLinks$Graph;)Z"⟩, 9), (⟨"ReversedLinks$Marking", "setOut", "(LReversedLinks$Graph;)V"⟩, 15), (⟨"ReversedLinks$Marking", "mark", "(I)V"⟩, 15), (⟨"ReversedLinks$Marking", "putCount", "(II)V"⟩, 15), (⟨"ReversedLinks$Marking", "goOn", "(LReversedLinks$Graph;)V"⟩, 15), (⟨"ReversedLinks$Marking", "goDown", "(I)V"⟩, 15), (⟨"ReversedLinks$Marking", "comeUp", "()V"⟩, 15)]
theorem lw_r1 : ∀ q ∈ lw_privs_1, lw_okq q := List.forall_mem_cons.mpr ⟨lw_p0, List.forall_mem_cons.mpr ⟨lw_p1, List.forall_mem_cons.mpr ⟨lw_p2, List.forall_mem_cons.mpr ⟨lw_p3, List.forall_mem_cons.mpr ⟨lw_p4, List.forall_mem_cons.mpr ⟨lw_p5, List.forall_mem_cons.mpr ⟨lw_p6, List.forall_mem_cons.mpr ⟨lw_p7, List.forall_mem_cons.mpr ⟨lw_p8, List.forall_mem_cons.mpr ⟨lw_p9, List.forall_mem_cons.mpr ⟨lw_p10, List.forall_mem_cons.mpr ⟨lw_p11, List.forall_mem_cons.mpr ⟨lw_p12, List.forall_mem_cons.mpr ⟨lw_p13, List.forall_mem_cons.mpr ⟨lw_p14, List.forall_mem_cons.mpr ⟨lw_p15, fun _ h => absurd h List.not_mem_nil⟩⟩⟩⟩⟩⟩⟩⟩⟩⟩⟩⟩⟩⟩⟩⟩
theorem lw_p16 : lw_okq (⟨"ReversedLinks", "ofMarking", "(I)I"⟩, 8) := ⟨⟨by decide +kernel, by decide +kernel⟩, List.mem_of_getElem? (i := 15) (by decide +kernel), List.mem_of_getElem? (i := 600) (by decide +kernel), List.mem_of_getElem? (i := 601) (by decide +kernel)⟩
theorem lw_p17 : lw_okq (⟨"ReversedLinks", "isAsSeen", "(LReversedLinks$Graph;I)Z"⟩, 8) := ⟨⟨by decide +kernel, by decide +kernel⟩, List.mem_of_getElem? (i := 15) (by decide +kernel), List.mem_of_getElem? (i := 645) (by decide +kernel), List.mem_of_getElem? (i := 646) (by decide +kernel)⟩
theorem lw_p18 : lw_okq (⟨"ReversedLinks", "isAsSeenBehind", "(II)Z"⟩, 8) := ⟨⟨by decide +kernel, by decide +kernel⟩, List.mem_of_getElem? (i := 15) (by decide +kernel), List.mem_of_getElem? (i := 649) (by decide +kernel), List.mem_of_getElem? (i := 650) (by decide +kernel)⟩
theorem lw_p19 : lw_okq (⟨"ReversedLinks", "isPlannable", "(II)Z"⟩, 8) := ⟨⟨by decide +kernel, by decide +kernel⟩, List.mem_of_getElem? (i := 15) (by decide +kernel), List.mem_of_getElem? (i := 680) (by decide +kernel), List.mem_of_getElem? (i := 681) (by decide +kernel)⟩
theorem lw_p20 : lw_okq (⟨"ReversedLinksModel", "isThere", "(I)Z"⟩, 20) := ⟨⟨by decide +kernel, by decide +kernel⟩, List.mem_of_getElem? (i := 792) (by decide +kernel), List.mem_of_getElem? (i := 878) (by decide +kernel), List.mem_of_getElem? (i := 879) (by decide +kernel)⟩
theorem lw_p21 : lw_okq (⟨"ReversedLinksModel", "holders", "(I)I"⟩, 20) := ⟨⟨by decide +kernel, by decide +kernel⟩, List.mem_of_getElem? (i := 792) (by decide +kernel), List.mem_of_getElem? (i := 889) (by decide +kernel), List.mem_of_getElem? (i := 890) (by decide +kernel)⟩
theorem lw_p22 : lw_okq (⟨"ReversedLinksModel", "isField", "(II)Z"⟩, 20) := ⟨⟨by decide +kernel, by decide +kernel⟩, List.mem_of_getElem? (i := 792) (by decide +kernel), List.mem_of_getElem? (i := 893) (by decide +kernel), List.mem_of_getElem? (i := 894) (by decide +kernel)⟩
theorem lw_p23 : lw_okq (⟨"ReversedLinksModel", "cut", "(I)I"⟩, 20) := ⟨⟨by decide +kernel, by decide +kernel⟩, List.mem_of_getElem? (i := 792) (by decide +kernel), List.mem_of_getElem? (i := 915) (by decide +kernel), List.mem_of_getElem? (i := 916) (by decide +kernel)⟩
theorem lw_p24 : lw_okq (⟨"ReversedLinksModel", "isReachedCut", "(III)Z"⟩, 20) := ⟨⟨by decide +kernel, by decide +kernel⟩, List.mem_of_getElem? (i := 792) (by decide +kernel), List.mem_of_getElem? (i := 919) (by decide +kernel), List.mem_of_getElem? (i := 920) (by decide +kernel)⟩
theorem lw_p25 : lw_okq (⟨"ReversedLinksModel", "turnedAt", "(I)I"⟩, 20) := ⟨⟨by decide +kernel, by decide +kernel⟩, List.mem_of_getElem? (i := 792) (by decide +kernel), List.mem_of_getElem? (i := 934) (by decide +kernel), List.mem_of_getElem? (i := 935) (by decide +kernel)⟩
theorem lw_p26 : lw_okq (⟨"ReversedLinksModel", "takes", "(I)Z"⟩, 20) := ⟨⟨by decide +kernel, by decide +kernel⟩, List.mem_of_getElem? (i := 792) (by decide +kernel), List.mem_of_getElem? (i := 964) (by decide +kernel), List.mem_of_getElem? (i := 965) (by decide +kernel)⟩
theorem lw_p27 : lw_okq (⟨"ReversedLinksModel", "begins", "(I)Z"⟩, 20) := ⟨⟨by decide +kernel, by decide +kernel⟩, List.mem_of_getElem? (i := 792) (by decide +kernel), List.mem_of_getElem? (i := 968) (by decide +kernel), List.mem_of_getElem? (i := 969) (by decide +kernel)⟩
theorem lw_p28 : lw_okq (⟨"ReversedLinksModel", "isNew", "(II)I"⟩, 20) := ⟨⟨by decide +kernel, by decide +kernel⟩, List.mem_of_getElem? (i := 792) (by decide +kernel), List.mem_of_getElem? (i := 974) (by decide +kernel), List.mem_of_getElem? (i := 975) (by decide +kernel)⟩
theorem lw_p29 : lw_okq (⟨"ReversedLinksModel", "gives", "(I)V"⟩, 20) := ⟨⟨by decide +kernel, by decide +kernel⟩, List.mem_of_getElem? (i := 792) (by decide +kernel), List.mem_of_getElem? (i := 978) (by decide +kernel), List.mem_of_getElem? (i := 979) (by decide +kernel)⟩
theorem lw_p30 : lw_okq (⟨"ReversedLinksModel", "shuts", "()V"⟩, 20) := ⟨⟨by decide +kernel, by decide +kernel⟩, List.mem_of_getElem? (i := 792) (by decide +kernel), List.mem_of_getElem? (i := 986) (by decide +kernel), List.mem_of_getElem? (i := 987) (by decide +kernel)⟩
theorem lw_p31 : lw_okq (⟨"ReversedLinksModel", "told", "(II)I"⟩, 20) := ⟨⟨by decide +kernel, by decide +kernel⟩, List.mem_of_getElem? (i := 792) (by decide +kernel), List.mem_of_getElem? (i := 990) (by decide +kernel), List.mem_of_getElem? (i := 991) (by decide +kernel)⟩
def lw_privs_2 : List (MethodName × Nat) := [(⟨"ReversedLinks", "ofMarking", "(I)I"⟩, 8), (⟨"ReversedLinks", "isAsSeen", "(LReversedLinks$Graph;I)Z"⟩, 8), (⟨"ReversedLinks", "isAsSeenBehind", "(II)Z"⟩, 8), (⟨"ReversedLinks", "isPlannable", "(II)Z"⟩, 8), (⟨"ReversedLinksModel", "isThere", "(I)Z"⟩, 20), (⟨"ReversedLinksModel", "holders", "(I)I"⟩, 20), (⟨"ReversedLinksModel", "isField", "(II)Z"⟩, 20), (⟨"ReversedLinksModel", "cut", "(I)I"⟩, 20), (⟨"ReversedLinksModel", "isReachedCut", "(III)Z"⟩, 20), (⟨"ReversedLinksModel", "turnedAt", "(I)I"⟩, 20), (⟨"ReversedLinksModel", "takes", "(I)Z"⟩, 20), (⟨"ReversedLinksModel", "begins", "(I)Z"⟩, 20), (⟨"ReversedLinksModel", "isNew", "(II)I"⟩, 20), (⟨"ReversedLinksModel", "gives", "(I)V"⟩, 20), (⟨"ReversedLinksModel", "shuts", "()V"⟩, 20), (⟨"ReversedLinksModel", "told", "(II)I"⟩, 20)]
theorem lw_r2 : ∀ q ∈ lw_privs_2, lw_okq q := List.forall_mem_cons.mpr ⟨lw_p16, List.forall_mem_cons.mpr ⟨lw_p17, List.forall_mem_cons.mpr ⟨lw_p18, List.forall_mem_cons.mpr ⟨lw_p19, List.forall_mem_cons.mpr ⟨lw_p20, List.forall_mem_cons.mpr ⟨lw_p21, List.forall_mem_cons.mpr ⟨lw_p22, List.forall_mem_cons.mpr ⟨lw_p23, List.forall_mem_cons.mpr ⟨lw_p24, List.forall_mem_cons.mpr ⟨lw_p25, List.forall_mem_cons.mpr ⟨lw_p26, List.forall_mem_cons.mpr ⟨lw_p27, List.forall_mem_cons.mpr ⟨lw_p28, List.forall_mem_cons.mpr ⟨lw_p29, List.forall_mem_cons.mpr ⟨lw_p30, List.forall_mem_cons.mpr ⟨lw_p31, fun _ h => absurd h List.not_mem_nil⟩⟩⟩⟩⟩⟩⟩⟩⟩⟩⟩⟩⟩⟩⟩⟩
theorem lw_p32 : lw_okq (⟨"ReversedLinksModel", "there", "()I"⟩, 20) := ⟨⟨by decide +kernel, by decide +kernel⟩, List.mem_of_getElem? (i := 792) (by decide +kernel), List.mem_of_getElem? (i := 1002) (by decide +kernel), List.mem_of_getElem? (i := 1003) (by decide +kernel)⟩
theorem lw_p33 : lw_okq (⟨"ReversedLinksModel", "left", "()I"⟩, 20) := ⟨⟨by decide +kernel, by decide +kernel⟩, List.mem_of_getElem? (i := 792) (by decide +kernel), List.mem_of_getElem? (i := 1049) (by decide +kernel), List.mem_of_getElem? (i := 1050) (by decide +kernel)⟩
theorem lw_p34 : lw_okq (⟨"ReversedLinksModel", "needs", "(II)I"⟩, 20) := ⟨⟨by decide +kernel, by decide +kernel⟩, List.mem_of_getElem? (i := 792) (by decide +kernel), List.mem_of_getElem? (i := 1071) (by decide +kernel), List.mem_of_getElem? (i := 1072) (by decide +kernel)⟩
theorem lw_p35 : lw_okq (⟨"ReversedLinksModel", "isSeen", "([II)Z"⟩, 20) := ⟨⟨by decide +kernel, by decide +kernel⟩, List.mem_of_getElem? (i := 792) (by decide +kernel), List.mem_of_getElem? (i := 1088) (by decide +kernel), List.mem_of_getElem? (i := 1089) (by decide +kernel)⟩
theorem lw_p36 : lw_okq (⟨"ReversedLinksModel", "isPlanned", "(II)Z"⟩, 20) := ⟨⟨by decide +kernel, by decide +kernel⟩, List.mem_of_getElem? (i := 792) (by decide +kernel), List.mem_of_getElem? (i := 1112) (by decide +kernel), List.mem_of_getElem? (i := 1113) (by decide +kernel)⟩
def lw_privs_3 : List (MethodName × Nat) := [(⟨"ReversedLinksModel", "there", "()I"⟩, 20), (⟨"ReversedLinksModel", "left", "()I"⟩, 20), (⟨"ReversedLinksModel", "needs", "(II)I"⟩, 20), (⟨"ReversedLinksModel", "isSeen", "([II)Z"⟩, 20), (⟨"ReversedLinksModel", "isPlanned", "(II)Z"⟩, 20)]
theorem lw_r3 : ∀ q ∈ lw_privs_3, lw_okq q := List.forall_mem_cons.mpr ⟨lw_p32, List.forall_mem_cons.mpr ⟨lw_p33, List.forall_mem_cons.mpr ⟨lw_p34, List.forall_mem_cons.mpr ⟨lw_p35, List.forall_mem_cons.mpr ⟨lw_p36, fun _ h => absurd h List.not_mem_nil⟩⟩⟩⟩⟩
def lw_privs : List (MethodName × Nat) := lw_privs_1 ++ (lw_privs_2 ++ (lw_privs_3))
def lw_tbl : List Cond := k2_sels lw_privs ++ tables_1
theorem lw_privs_ok : ∀ q ∈ lw_privs, lw_okq q := by
  show ∀ q ∈ lw_privs_1 ++ (lw_privs_2 ++ (lw_privs_3)), lw_okq q
  exact List.forall_mem_append.mpr ⟨lw_r1, List.forall_mem_append.mpr ⟨lw_r2, lw_r3⟩⟩
end
section
def RX0 : String := "ReversedLinks$Graph"
def TX0 : u_T := fun k => match k with
  | 0 => ("ReversedLinks$Graph", "came", "I", false)
  | 1 => ("ReversedLinks$Graph", "there", "I", false)
  | 2 => ("ReversedLinks$Graph", "pinned", "I", false)
  | 3 => ("ReversedLinks$Graph", "layouts", "[I", true)
  | 4 => ("ReversedLinks$Graph", "tags", "[I", true)
  | 5 => ("ReversedLinks$Graph", "sizes", "[I", true)
  | 6 => ("ReversedLinks$Graph", "held", "[I", true)
  | _ => ("ReversedLinks$Graph", "roots", "[I", true)
def tyX0 : Nat → FieldType := fun k => match k with
  | 0 => .int
  | 1 => .int
  | 2 => .int
  | 3 => .array .int
  | 4 => .array .int
  | 5 => .array .int
  | 6 => .array .int
  | _ => .array .int
theorem nmX0 : ∀ a, a < 8 → ∀ b, b < 8 → a ≠ b → (TX0 a).2.1 ≠ (TX0 b).2.1 := by decide +kernel
theorem tyX0_ok : ∀ k, k < 8 → parseFieldDescriptor (TX0 k).2.2.1 = some (tyX0 k) := by decide +kernel
abbrev cX0_init : ByteArray := prog_2_method_1_code
def yX0_init : MethodName := ⟨RX0, "<init>", "()V"⟩
abbrev cX0_copyFrom : ByteArray := prog_2_method_2_code
def yX0_copyFrom : MethodName := ⟨RX0, "copyFrom", "(LReversedLinks$Graph;)V"⟩
abbrev cX0_add : ByteArray := prog_2_method_3_code
def yX0_add : MethodName := ⟨RX0, "add", "(III)I"⟩
abbrev cX0_widen : ByteArray := prog_2_method_4_code
def yX0_widen : MethodName := ⟨RX0, "widen", "(I)V"⟩
abbrev cX0_isThere : ByteArray := prog_2_method_5_code
def yX0_isThere : MethodName := ⟨RX0, "isThere", "(I)Z"⟩
abbrev cX0_isThereOrNothing : ByteArray := prog_2_method_6_code
def yX0_isThereOrNothing : MethodName := ⟨RX0, "isThereOrNothing", "(I)Z"⟩
abbrev cX0_isField : ByteArray := prog_2_method_7_code
def yX0_isField : MethodName := ⟨RX0, "isField", "(II)Z"⟩
abbrev cX0_layoutOf : ByteArray := prog_2_method_8_code
def yX0_layoutOf : MethodName := ⟨RX0, "layoutOf", "(I)I"⟩
abbrev cX0_tagOf : ByteArray := prog_2_method_9_code
def yX0_tagOf : MethodName := ⟨RX0, "tagOf", "(I)I"⟩
abbrev cX0_sizeOf : ByteArray := prog_2_method_10_code
def yX0_sizeOf : MethodName := ⟨RX0, "sizeOf", "(I)I"⟩
abbrev cX0_heldBy : ByteArray := prog_2_method_11_code
def yX0_heldBy : MethodName := ⟨RX0, "heldBy", "(II)I"⟩
abbrev cX0_heldByRoot : ByteArray := prog_2_method_12_code
def yX0_heldByRoot : MethodName := ⟨RX0, "heldByRoot", "(I)I"⟩
abbrev cX0_retag : ByteArray := prog_2_method_13_code
def yX0_retag : MethodName := ⟨RX0, "retag", "(II)V"⟩
abbrev cX0_putInto : ByteArray := prog_2_method_14_code
def yX0_putInto : MethodName := ⟨RX0, "putInto", "(III)V"⟩
abbrev cX0_putIntoRoot : ByteArray := prog_2_method_15_code
def yX0_putIntoRoot : MethodName := ⟨RX0, "putIntoRoot", "(II)V"⟩
abbrev cX0_leadsTo : ByteArray := prog_2_method_16_code
def yX0_leadsTo : MethodName := ⟨RX0, "leadsTo", "(II)I"⟩
abbrev cX0_linksOf : ByteArray := prog_2_method_17_code
def yX0_linksOf : MethodName := ⟨RX0, "linksOf", "(II)I"⟩
abbrev cX0_heldByRoots : ByteArray := prog_2_method_18_code
def yX0_heldByRoots : MethodName := ⟨RX0, "heldByRoots", "()I"⟩
abbrev cX0_holders : ByteArray := prog_2_method_19_code
def yX0_holders : MethodName := ⟨RX0, "holders", "(I)I"⟩
abbrev cX0_keepOnly : ByteArray := prog_2_method_20_code
def yX0_keepOnly : MethodName := ⟨RX0, "keepOnly", "(I)I"⟩
def RX1 : String := "ReversedLinks$Links"
def TX1 : u_T := fun k => match k with
  | 0 => ("ReversedLinks$Links", "to", "[I", true)
  | _ => ("ReversedLinks$Links", "start", "I", false)
def tyX1 : Nat → FieldType := fun k => match k with
  | 0 => .array .int
  | _ => .int
theorem nmX1 : ∀ a, a < 2 → ∀ b, b < 2 → a ≠ b → (TX1 a).2.1 ≠ (TX1 b).2.1 := by decide +kernel
theorem tyX1_ok : ∀ k, k < 2 → parseFieldDescriptor (TX1 k).2.2.1 = some (tyX1 k) := by decide +kernel
abbrev cX1_init : ByteArray := prog_3_method_1_code
def yX1_init : MethodName := ⟨RX1, "<init>", "()V"⟩
abbrev cX1_readFrom : ByteArray := prog_3_method_2_code
def yX1_readFrom : MethodName := ⟨RX1, "readFrom", "(LReversedLinks$Graph;)V"⟩
abbrev cX1_spread : ByteArray := prog_3_method_3_code
def yX1_spread : MethodName := ⟨RX1, "spread", "(II)I"⟩
abbrev cX1_reached : ByteArray := prog_3_method_4_code
def yX1_reached : MethodName := ⟨RX1, "reached", "()I"⟩
abbrev cX1_keptBy : ByteArray := prog_3_method_5_code
def yX1_keptBy : MethodName := ⟨RX1, "keptBy", "(I)I"⟩
abbrev cX1_reachedWithout : ByteArray := prog_3_method_6_code
def yX1_reachedWithout : MethodName := ⟨RX1, "reachedWithout", "(LReversedLinks$Graph;II)I"⟩
abbrev cX1_cutOf : ByteArray := prog_3_method_7_code
def yX1_cutOf : MethodName := ⟨RX1, "cutOf", "(LReversedLinks$Graph;I)I"⟩
abbrev cX1_farOf : ByteArray := prog_3_method_8_code
def yX1_farOf : MethodName := ⟨RX1, "farOf", "(I)I"⟩
def RX2 : String := "ReversedLinks$Marking"
def TX2 : u_T := fun k => match k with
  | 0 => ("ReversedLinks$Marking", "isRunning", "Z", false)
  | 1 => ("ReversedLinks$Marking", "isClean", "Z", false)
  | 2 => ("ReversedLinks$Marking", "marked", "I", false)
  | 3 => ("ReversedLinks$Marking", "later", "I", false)
  | 4 => ("ReversedLinks$Marking", "at", "I", false)
  | 5 => ("ReversedLinks$Marking", "depth", "I", false)
  | 6 => ("ReversedLinks$Marking", "steps", "I", false)
  | 7 => ("ReversedLinks$Marking", "limit", "I", false)
  | 8 => ("ReversedLinks$Marking", "next", "I", false)
  | 9 => ("ReversedLinks$Marking", "turned", "I", false)
  | 10 => ("ReversedLinks$Marking", "pushed", "I", false)
  | 11 => ("ReversedLinks$Marking", "off", "I", false)
  | 12 => ("ReversedLinks$Marking", "deepest", "I", false)
  | 13 => ("ReversedLinks$Marking", "way", "[I", true)
  | _ => ("ReversedLinks$Marking", "counts", "[I", true)
def tyX2 : Nat → FieldType := fun k => match k with
  | 0 => .boolean
  | 1 => .boolean
  | 2 => .int
  | 3 => .int
  | 4 => .int
  | 5 => .int
  | 6 => .int
  | 7 => .int
  | 8 => .int
  | 9 => .int
  | 10 => .int
  | 11 => .int
  | 12 => .int
  | 13 => .array .int
  | _ => .array .int
theorem nmX2 : ∀ a, a < 15 → ∀ b, b < 15 → a ≠ b → (TX2 a).2.1 ≠ (TX2 b).2.1 := by decide +kernel
theorem tyX2_ok : ∀ k, k < 15 → parseFieldDescriptor (TX2 k).2.2.1 = some (tyX2 k) := by decide +kernel
abbrev cX2_init : ByteArray := prog_4_method_1_code
def yX2_init : MethodName := ⟨RX2, "<init>", "()V"⟩
abbrev cX2_copyFrom : ByteArray := prog_4_method_2_code
def yX2_copyFrom : MethodName := ⟨RX2, "copyFrom", "(LReversedLinks$Marking;)V"⟩
abbrev cX2_start : ByteArray := prog_4_method_3_code
def yX2_start : MethodName := ⟨RX2, "start", "(I)V"⟩
abbrev cX2_breakOff : ByteArray := prog_4_method_4_code
def yX2_breakOff : MethodName := ⟨RX2, "breakOff", "()V"⟩
abbrev cX2_run : ByteArray := prog_4_method_5_code
def yX2_run : MethodName := ⟨RX2, "run", "(LReversedLinks$Graph;I)I"⟩
abbrev cX2_setOut : ByteArray := prog_4_method_6_code
def yX2_setOut : MethodName := ⟨RX2, "setOut", "(LReversedLinks$Graph;)V"⟩
abbrev cX2_goOn : ByteArray := prog_4_method_7_code
def yX2_goOn : MethodName := ⟨RX2, "goOn", "(LReversedLinks$Graph;)V"⟩
abbrev cX2_goDown : ByteArray := prog_4_method_8_code
def yX2_goDown : MethodName := ⟨RX2, "goDown", "(I)V"⟩
abbrev cX2_comeUp : ByteArray := prog_4_method_9_code
def yX2_comeUp : MethodName := ⟨RX2, "comeUp", "()V"⟩
abbrev cX2_mark : ByteArray := prog_4_method_10_code
def yX2_mark : MethodName := ⟨RX2, "mark", "(I)V"⟩
abbrev cX2_putCount : ByteArray := prog_4_method_11_code
def yX2_putCount : MethodName := ⟨RX2, "putCount", "(II)V"⟩
abbrev cX2_countOf : ByteArray := prog_4_method_12_code
def yX2_countOf : MethodName := ⟨RX2, "countOf", "(I)I"⟩
abbrev cX2_tally : ByteArray := prog_4_method_13_code
def yX2_tally : MethodName := ⟨RX2, "tally", "(I)I"⟩
abbrev cX2_turnedNow : ByteArray := prog_4_method_14_code
def yX2_turnedNow : MethodName := ⟨RX2, "turnedNow", "()I"⟩
abbrev cX2_back : ByteArray := prog_4_method_15_code
def yX2_back : MethodName := ⟨RX2, "back", "()I"⟩
abbrev cX2_hasTurned : ByteArray := prog_4_method_16_code
def yX2_hasTurned : MethodName := ⟨RX2, "hasTurned", "(I)Z"⟩
abbrev cX2_isTurned : ByteArray := prog_4_method_17_code
def yX2_isTurned : MethodName := ⟨RX2, "isTurned", "(II)Z"⟩
abbrev cX2_backFrom : ByteArray := prog_4_method_18_code
def yX2_backFrom : MethodName := ⟨RX2, "backFrom", "(I)I"⟩
abbrev cX2_turnedAt : ByteArray := prog_4_method_19_code
def yX2_turnedAt : MethodName := ⟨RX2, "turnedAt", "(I)Z"⟩
abbrev cX2_placeOf : ByteArray := prog_4_method_20_code
def yX2_placeOf : MethodName := ⟨RX2, "placeOf", "(I)I"⟩
def RX3 : String := "ReversedLinks$Sheet"
def TX3 : u_T := fun k => match k with
  | 0 => ("ReversedLinks$Sheet", "size", "I", false)
  | _ => ("ReversedLinks$Sheet", "numbers", "[I", true)
def tyX3 : Nat → FieldType := fun k => match k with
  | 0 => .int
  | _ => .array .int
theorem nmX3 : ∀ a, a < 2 → ∀ b, b < 2 → a ≠ b → (TX3 a).2.1 ≠ (TX3 b).2.1 := by decide +kernel
theorem tyX3_ok : ∀ k, k < 2 → parseFieldDescriptor (TX3 k).2.2.1 = some (tyX3 k) := by decide +kernel
abbrev cX3_init : ByteArray := prog_5_method_1_code
def yX3_init : MethodName := ⟨RX3, "<init>", "()V"⟩
abbrev cX3_copyFrom : ByteArray := prog_5_method_2_code
def yX3_copyFrom : MethodName := ⟨RX3, "copyFrom", "(LReversedLinks$Sheet;)V"⟩
abbrev cX3_clear : ByteArray := prog_5_method_3_code
def yX3_clear : MethodName := ⟨RX3, "clear", "()I"⟩
abbrev cX3_add : ByteArray := prog_5_method_4_code
def yX3_add : MethodName := ⟨RX3, "add", "(III)I"⟩
abbrev cX3_number : ByteArray := prog_5_method_5_code
def yX3_number : MethodName := ⟨RX3, "number", "(II)I"⟩
def RX4 : String := "ReversedLinks$State"
def TX4 : u_T := fun k => match k with
  | 0 => ("ReversedLinks$State", "graph", "LReversedLinks$Graph;", true)
  | 1 => ("ReversedLinks$State", "marking", "LReversedLinks$Marking;", true)
  | 2 => ("ReversedLinks$State", "seen", "LReversedLinks$Sheet;", true)
  | 3 => ("ReversedLinks$State", "plan", "LReversedLinks$Sheet;", true)
  | _ => ("ReversedLinks$State", "book", "LReversedLinks$Sheet;", true)
def tyX4 : Nat → FieldType := fun k => match k with
  | 0 => .object "ReversedLinks$Graph"
  | 1 => .object "ReversedLinks$Marking"
  | 2 => .object "ReversedLinks$Sheet"
  | 3 => .object "ReversedLinks$Sheet"
  | _ => .object "ReversedLinks$Sheet"
theorem nmX4 : ∀ a, a < 5 → ∀ b, b < 5 → a ≠ b → (TX4 a).2.1 ≠ (TX4 b).2.1 := by decide +kernel
theorem tyX4_ok : ∀ k, k < 5 → parseFieldDescriptor (TX4 k).2.2.1 = some (tyX4 k) := by decide +kernel
abbrev cX4_init : ByteArray := prog_6_method_1_code
def yX4_init : MethodName := ⟨RX4, "<init>", "()V"⟩
abbrev cX4_copyFrom : ByteArray := prog_6_method_2_code
def yX4_copyFrom : MethodName := ⟨RX4, "copyFrom", "(LReversedLinks$State;)V"⟩
def RX5 : String := "ReversedLinks$Tapes"
def TX5 : u_T := fun k => match k with
  | 0 => ("ReversedLinks$Tapes", "sorts", "[I", true)
  | 1 => ("ReversedLinks$Tapes", "lengths", "[I", true)
  | _ => ("ReversedLinks$Tapes", "items", "[J", true)
def tyX5 : Nat → FieldType := fun k => match k with
  | 0 => .array .int
  | 1 => .array .int
  | _ => .array .long
theorem nmX5 : ∀ a, a < 3 → ∀ b, b < 3 → a ≠ b → (TX5 a).2.1 ≠ (TX5 b).2.1 := by decide +kernel
theorem tyX5_ok : ∀ k, k < 3 → parseFieldDescriptor (TX5 k).2.2.1 = some (tyX5 k) := by decide +kernel
abbrev cX5_init : ByteArray := prog_7_method_1_code
def yX5_init : MethodName := ⟨RX5, "<init>", "()V"⟩
abbrev cX5_sortOf : ByteArray := prog_7_method_2_code
def yX5_sortOf : MethodName := ⟨RX5, "sortOf", "(I)I"⟩
abbrev cX5_isPlace : ByteArray := prog_7_method_3_code
def yX5_isPlace : MethodName := ⟨RX5, "isPlace", "(II)Z"⟩
abbrev cX5_isSpan : ByteArray := prog_7_method_4_code
def yX5_isSpan : MethodName := ⟨RX5, "isSpan", "(III)Z"⟩
abbrev cX5_lay : ByteArray := prog_7_method_5_code
def yX5_lay : MethodName := ⟨RX5, "lay", "(III)V"⟩
abbrev cX5_itemAt : ByteArray := prog_7_method_6_code
def yX5_itemAt : MethodName := ⟨RX5, "itemAt", "(II)J"⟩
abbrev cX5_write : ByteArray := prog_7_method_7_code
def yX5_write : MethodName := ⟨RX5, "write", "(IIJ)V"⟩
abbrev cX5_move : ByteArray := prog_7_method_8_code
def yX5_move : MethodName := ⟨RX5, "move", "(IIIII)V"⟩
abbrev cX5_cutDown : ByteArray := prog_7_method_9_code
def yX5_cutDown : MethodName := ⟨RX5, "cutDown", "(IJ)J"⟩
def RX6 : String := "ReversedLinks$Text"
def TX6 : u_T := fun k => match k with
  | 0 => ("ReversedLinks$Text", "length", "I", false)
  | 1 => ("ReversedLinks$Text", "made", "I", false)
  | 2 => ("ReversedLinks$Text", "outermost", "I", false)
  | 3 => ("ReversedLinks$Text", "signs", "[I", true)
  | 4 => ("ReversedLinks$Text", "openCells", "[I", true)
  | 5 => ("ReversedLinks$Text", "openLayouts", "[I", true)
  | 6 => ("ReversedLinks$Text", "filled", "[I", true)
  | 7 => ("ReversedLinks$Text", "depth", "I", false)
  | _ => ("ReversedLinks$Text", "isWanting", "Z", false)
def tyX6 : Nat → FieldType := fun k => match k with
  | 0 => .int
  | 1 => .int
  | 2 => .int
  | 3 => .array .int
  | 4 => .array .int
  | 5 => .array .int
  | 6 => .array .int
  | 7 => .int
  | _ => .boolean
theorem nmX6 : ∀ a, a < 9 → ∀ b, b < 9 → a ≠ b → (TX6 a).2.1 ≠ (TX6 b).2.1 := by decide +kernel
theorem tyX6_ok : ∀ k, k < 9 → parseFieldDescriptor (TX6 k).2.2.1 = some (tyX6 k) := by decide +kernel
abbrev cX6_init : ByteArray := prog_8_method_1_code
def yX6_init : MethodName := ⟨RX6, "<init>", "()V"⟩
abbrev cX6_append : ByteArray := prog_8_method_2_code
def yX6_append : MethodName := ⟨RX6, "append", "(I)Z"⟩
abbrev cX6_readInto : ByteArray := prog_8_method_3_code
def yX6_readInto : MethodName := ⟨RX6, "readInto", "(LReversedLinks$Graph;I)I"⟩
abbrev cX6_take : ByteArray := prog_8_method_4_code
def yX6_take : MethodName := ⟨RX6, "take", "(ILReversedLinks$Graph;I)Z"⟩
abbrev cX6_open : ByteArray := prog_8_method_5_code
def yX6_open : MethodName := ⟨RX6, "open", "(ILReversedLinks$Graph;)Z"⟩
abbrev cX6_put : ByteArray := prog_8_method_6_code
def yX6_put : MethodName := ⟨RX6, "put", "(ILReversedLinks$Graph;)Z"⟩
abbrev cX6_goOn : ByteArray := prog_8_method_7_code
def yX6_goOn : MethodName := ⟨RX6, "goOn", "(I)Z"⟩
abbrev cX6_isRowJustOpened : ByteArray := prog_8_method_8_code
def yX6_isRowJustOpened : MethodName := ⟨RX6, "isRowJustOpened", "()Z"⟩
abbrev cX6_wantMore : ByteArray := prog_8_method_9_code
def yX6_wantMore : MethodName := ⟨RX6, "wantMore", "()Z"⟩
abbrev cX6_close : ByteArray := prog_8_method_10_code
def yX6_close : MethodName := ⟨RX6, "close", "()Z"⟩
def RX7 : String := "ReversedLinks"
def TX7 : u_T := fun k => match k with
  | 0 => ("ReversedLinks", "now", "LReversedLinks$State;", true)
  | 1 => ("ReversedLinks", "kept", "LReversedLinks$State;", true)
  | 2 => ("ReversedLinks", "isKept", "Z", false)
  | 3 => ("ReversedLinks", "trialGraph", "LReversedLinks$Graph;", true)
  | 4 => ("ReversedLinks", "trialMarking", "LReversedLinks$Marking;", true)
  | 5 => ("ReversedLinks", "links", "LReversedLinks$Links;", true)
  | 6 => ("ReversedLinks", "text", "LReversedLinks$Text;", true)
  | _ => ("ReversedLinks", "tapes", "LReversedLinks$Tapes;", true)
def tyX7 : Nat → FieldType := fun k => match k with
  | 0 => .object "ReversedLinks$State"
  | 1 => .object "ReversedLinks$State"
  | 2 => .boolean
  | 3 => .object "ReversedLinks$Graph"
  | 4 => .object "ReversedLinks$Marking"
  | 5 => .object "ReversedLinks$Links"
  | 6 => .object "ReversedLinks$Text"
  | _ => .object "ReversedLinks$Tapes"
theorem nmX7 : ∀ a, a < 8 → ∀ b, b < 8 → a ≠ b → (TX7 a).2.1 ≠ (TX7 b).2.1 := by decide +kernel
theorem tyX7_ok : ∀ k, k < 8 → parseFieldDescriptor (TX7 k).2.2.1 = some (tyX7 k) := by decide +kernel
abbrev cX7_init : ByteArray := prog_1_method_1_code
def yX7_init : MethodName := ⟨RX7, "<init>", "()V"⟩
abbrev cX7_cell : ByteArray := prog_1_method_2_code
def yX7_cell : MethodName := ⟨RX7, "cell", "(III)I"⟩
abbrev cX7_of : ByteArray := prog_1_method_3_code
def yX7_of : MethodName := ⟨RX7, "of", "(II)I"⟩
abbrev cX7_field : ByteArray := prog_1_method_4_code
def yX7_field : MethodName := ⟨RX7, "field", "(II)I"⟩
abbrev cX7_raw : ByteArray := prog_1_method_5_code
def yX7_raw : MethodName := ⟨RX7, "raw", "(II)I"⟩
abbrev cX7_hold : ByteArray := prog_1_method_6_code
def yX7_hold : MethodName := ⟨RX7, "hold", "(III)I"⟩
abbrev cX7_tag : ByteArray := prog_1_method_7_code
def yX7_tag : MethodName := ⟨RX7, "tag", "(II)I"⟩
abbrev cX7_root : ByteArray := prog_1_method_8_code
def yX7_root : MethodName := ⟨RX7, "root", "(II)I"⟩
abbrev cX7_pin : ByteArray := prog_1_method_9_code
def yX7_pin : MethodName := ⟨RX7, "pin", "(IZ)I"⟩
abbrev cX7_feed : ByteArray := prog_1_method_10_code
def yX7_feed : MethodName := ⟨RX7, "feed", "(I)I"⟩
abbrev cX7_build : ByteArray := prog_1_method_11_code
def yX7_build : MethodName := ⟨RX7, "build", "(I)I"⟩
abbrev cX7_begin : ByteArray := prog_1_method_12_code
def yX7_begin : MethodName := ⟨RX7, "begin", "(I)I"⟩
abbrev cX7_step : ByteArray := prog_1_method_13_code
def yX7_step : MethodName := ⟨RX7, "step", "(I)I"⟩
abbrev cX7_leave : ByteArray := prog_1_method_14_code
def yX7_leave : MethodName := ⟨RX7, "leave", "()I"⟩
abbrev cX7_sweep : ByteArray := prog_1_method_15_code
def yX7_sweep : MethodName := ⟨RX7, "sweep", "()I"⟩
abbrev cX7_told : ByteArray := prog_1_method_16_code
def yX7_told : MethodName := ⟨RX7, "told", "(I)I"⟩
abbrev cX7_on : ByteArray := prog_1_method_17_code
def yX7_on : MethodName := ⟨RX7, "on", "(II)I"⟩
abbrev cX7_need : ByteArray := prog_1_method_18_code
def yX7_need : MethodName := ⟨RX7, "need", "(II)I"⟩
abbrev cX7_least : ByteArray := prog_1_method_19_code
def yX7_least : MethodName := ⟨RX7, "least", "(I)I"⟩
abbrev cX7_see : ByteArray := prog_1_method_20_code
def yX7_see : MethodName := ⟨RX7, "see", "(IIZ)I"⟩
abbrev cX7_fits : ByteArray := prog_1_method_21_code
def yX7_fits : MethodName := ⟨RX7, "fits", "(I)I"⟩
abbrev cX7_can : ByteArray := prog_1_method_22_code
def yX7_can : MethodName := ⟨RX7, "can", "(III)I"⟩
abbrev cX7_odds : ByteArray := prog_1_method_23_code
def yX7_odds : MethodName := ⟨RX7, "odds", "(II)J"⟩
abbrev cX7_mean : ByteArray := prog_1_method_24_code
def yX7_mean : MethodName := ⟨RX7, "mean", "(I)J"⟩
abbrev cX7_plan : ByteArray := prog_1_method_25_code
def yX7_plan : MethodName := ⟨RX7, "plan", "(II)I"⟩
abbrev cX7_ends : ByteArray := prog_1_method_26_code
def yX7_ends : MethodName := ⟨RX7, "ends", "()I"⟩
abbrev cX7_book : ByteArray := prog_1_method_27_code
def yX7_book : MethodName := ⟨RX7, "book", "(III)I"⟩
abbrev cX7_looked : ByteArray := prog_1_method_28_code
def yX7_looked : MethodName := ⟨RX7, "looked", "()I"⟩
abbrev cX7_judge : ByteArray := prog_1_method_29_code
def yX7_judge : MethodName := ⟨RX7, "judge", "(II)I"⟩
abbrev cX7_image : ByteArray := prog_1_method_30_code
def yX7_image : MethodName := ⟨RX7, "image", "()I"⟩
abbrev cX7_undo : ByteArray := prog_1_method_31_code
def yX7_undo : MethodName := ⟨RX7, "undo", "()I"⟩
abbrev cX7_taken : ByteArray := prog_1_method_32_code
def yX7_taken : MethodName := ⟨RX7, "taken", "(II)I"⟩
abbrev cX7_count : ByteArray := prog_1_method_33_code
def yX7_count : MethodName := ⟨RX7, "count", "(I)I"⟩
abbrev cX7_tape : ByteArray := prog_1_method_34_code
def yX7_tape : MethodName := ⟨RX7, "tape", "(III)I"⟩
abbrev cX7_item : ByteArray := prog_1_method_35_code
def yX7_item : MethodName := ⟨RX7, "item", "(IIJ)I"⟩
abbrev cX7_read : ByteArray := prog_1_method_36_code
def yX7_read : MethodName := ⟨RX7, "read", "(II)J"⟩
abbrev cX7_shift : ByteArray := prog_1_method_37_code
def yX7_shift : MethodName := ⟨RX7, "shift", "(IIIII)I"⟩
abbrev cX7_wayTo : ByteArray := prog_1_method_38_code
def yX7_wayTo : MethodName := ⟨RX7, "wayTo", "(II)I"⟩
abbrev cX7_ofMarking : ByteArray := prog_1_method_39_code
def yX7_ofMarking : MethodName := ⟨RX7, "ofMarking", "(I)I"⟩
abbrev cX7_isAsSeen : ByteArray := prog_1_method_40_code
def yX7_isAsSeen : MethodName := ⟨RX7, "isAsSeen", "(LReversedLinks$Graph;I)Z"⟩
abbrev cX7_isAsSeenBehind : ByteArray := prog_1_method_41_code
def yX7_isAsSeenBehind : MethodName := ⟨RX7, "isAsSeenBehind", "(II)Z"⟩
abbrev cX7_isPlannable : ByteArray := prog_1_method_42_code
def yX7_isPlannable : MethodName := ⟨RX7, "isPlannable", "(II)Z"⟩
abbrev cX7_isTag : ByteArray := prog_1_method_43_code
def yX7_isTag : MethodName := ⟨RX7, "isTag", "(I)Z"⟩
abbrev cX7_isRoot : ByteArray := prog_1_method_44_code
def yX7_isRoot : MethodName := ⟨RX7, "isRoot", "(I)Z"⟩
abbrev cX7_isLimit : ByteArray := prog_1_method_45_code
def yX7_isLimit : MethodName := ⟨RX7, "isLimit", "(I)Z"⟩
abbrev cX7_isTape : ByteArray := prog_1_method_46_code
def yX7_isTape : MethodName := ⟨RX7, "isTape", "(I)Z"⟩
abbrev cX7_asNumber : ByteArray := prog_1_method_47_code
def yX7_asNumber : MethodName := ⟨RX7, "asNumber", "(Z)I"⟩
abbrev cX7_orEmpty : ByteArray := prog_1_method_48_code
def yX7_orEmpty : MethodName := ⟨RX7, "orEmpty", "(I)I"⟩
abbrev cX7_bit : ByteArray := prog_1_method_49_code
def yX7_bit : MethodName := ⟨RX7, "bit", "(I)I"⟩
abbrev cX7_has : ByteArray := prog_1_method_50_code
def yX7_has : MethodName := ⟨RX7, "has", "(II)Z"⟩
abbrev cX7_firstOf : ByteArray := prog_1_method_51_code
def yX7_firstOf : MethodName := ⟨RX7, "firstOf", "(I)I"⟩
abbrev cX7_fieldsOf : ByteArray := prog_1_method_52_code
def yX7_fieldsOf : MethodName := ⟨RX7, "fieldsOf", "(II)I"⟩
abbrev cX7_isFollowed : ByteArray := prog_1_method_53_code
def yX7_isFollowed : MethodName := ⟨RX7, "isFollowed", "(III)Z"⟩
abbrev cX7_isUnder : ByteArray := prog_1_method_54_code
def yX7_isUnder : MethodName := ⟨RX7, "isUnder", "(II)Z"⟩
abbrev cX7_bitsFor : ByteArray := prog_1_method_55_code
def yX7_bitsFor : MethodName := ⟨RX7, "bitsFor", "(I)I"⟩
abbrev cX7_fraction : ByteArray := prog_1_method_56_code
def yX7_fraction : MethodName := ⟨RX7, "fraction", "(III)J"⟩
def RX8 : String := "ReversedLinksModel"
def TX8 : u_T := fun k => match k with
  | 0 => ("ReversedLinksModel", "now", "[I", true)
  | 1 => ("ReversedLinksModel", "then", "[I", true)
  | 2 => ("ReversedLinksModel", "kept", "[I", true)
  | 3 => ("ReversedLinksModel", "hasImage", "Z", false)
  | 4 => ("ReversedLinksModel", "text", "[I", true)
  | 5 => ("ReversedLinksModel", "texted", "I", false)
  | 6 => ("ReversedLinksModel", "openCell", "[I", true)
  | 7 => ("ReversedLinksModel", "openSort", "[I", true)
  | 8 => ("ReversedLinksModel", "openHas", "[I", true)
  | 9 => ("ReversedLinksModel", "newLayout", "[I", true)
  | 10 => ("ReversedLinksModel", "newTag", "[I", true)
  | 11 => ("ReversedLinksModel", "newMany", "[I", true)
  | 12 => ("ReversedLinksModel", "newHolds", "[I", true)
  | 13 => ("ReversedLinksModel", "newOnes", "I", false)
  | 14 => ("ReversedLinksModel", "opens", "I", false)
  | 15 => ("ReversedLinksModel", "whole", "I", false)
  | 16 => ("ReversedLinksModel", "isWhole", "Z", false)
  | 17 => ("ReversedLinksModel", "sorts", "[I", true)
  | 18 => ("ReversedLinksModel", "sizes", "[I", true)
  | _ => ("ReversedLinksModel", "items", "[J", true)
def tyX8 : Nat → FieldType := fun k => match k with
  | 0 => .array .int
  | 1 => .array .int
  | 2 => .array .int
  | 3 => .boolean
  | 4 => .array .int
  | 5 => .int
  | 6 => .array .int
  | 7 => .array .int
  | 8 => .array .int
  | 9 => .array .int
  | 10 => .array .int
  | 11 => .array .int
  | 12 => .array .int
  | 13 => .int
  | 14 => .int
  | 15 => .int
  | 16 => .boolean
  | 17 => .array .int
  | 18 => .array .int
  | _ => .array .long
theorem nmX8 : ∀ a, a < 20 → ∀ b, b < 20 → a ≠ b → (TX8 a).2.1 ≠ (TX8 b).2.1 := by decide +kernel
theorem tyX8_ok : ∀ k, k < 20 → parseFieldDescriptor (TX8 k).2.2.1 = some (tyX8 k) := by decide +kernel
abbrev cX8_in : ByteArray := prog_10_method_1_code
def yX8_in : MethodName := ⟨RX8, "in", "(JJJ)Z"⟩
abbrev cX8_bit : ByteArray := prog_10_method_2_code
def yX8_bit : MethodName := ⟨RX8, "bit", "(II)Z"⟩
abbrev cX8_copies : ByteArray := prog_10_method_3_code
def yX8_copies : MethodName := ⟨RX8, "copies", "([I[I)V"⟩
abbrev cX8_init : ByteArray := prog_10_method_4_code
def yX8_init : MethodName := ⟨RX8, "<init>", "()V"⟩
abbrev cX8_isThere : ByteArray := prog_10_method_5_code
def yX8_isThere : MethodName := ⟨RX8, "isThere", "(I)Z"⟩
abbrev cX8_isField : ByteArray := prog_10_method_6_code
def yX8_isField : MethodName := ⟨RX8, "isField", "(II)Z"⟩
abbrev cX8_comes : ByteArray := prog_10_method_7_code
def yX8_comes : MethodName := ⟨RX8, "comes", "([IIII)I"⟩
abbrev cX8_manyOf : ByteArray := prog_10_method_8_code
def yX8_manyOf : MethodName := ⟨RX8, "manyOf", "(II)I"⟩
abbrev cX8_cell : ByteArray := prog_10_method_9_code
def yX8_cell : MethodName := ⟨RX8, "cell", "(III)I"⟩
abbrev cX8_isFollowed : ByteArray := prog_10_method_10_code
def yX8_isFollowed : MethodName := ⟨RX8, "isFollowed", "([III)Z"⟩
abbrev cX8_leads : ByteArray := prog_10_method_11_code
def yX8_leads : MethodName := ⟨RX8, "leads", "([III)I"⟩
abbrev cX8_reach : ByteArray := prog_10_method_12_code
def yX8_reach : MethodName := ⟨RX8, "reach", "([III)I"⟩
abbrev cX8_rooted : ByteArray := prog_10_method_13_code
def yX8_rooted : MethodName := ⟨RX8, "rooted", "([I)I"⟩
abbrev cX8_reached : ByteArray := prog_10_method_14_code
def yX8_reached : MethodName := ⟨RX8, "reached", "([I)I"⟩
abbrev cX8_far : ByteArray := prog_10_method_15_code
def yX8_far : MethodName := ⟨RX8, "far", "([II)I"⟩
abbrev cX8_holders : ByteArray := prog_10_method_16_code
def yX8_holders : MethodName := ⟨RX8, "holders", "(I)I"⟩
abbrev cX8_isReachedCut : ByteArray := prog_10_method_17_code
def yX8_isReachedCut : MethodName := ⟨RX8, "isReachedCut", "(III)Z"⟩
abbrev cX8_cut : ByteArray := prog_10_method_18_code
def yX8_cut : MethodName := ⟨RX8, "cut", "(I)I"⟩
abbrev cX8_bits : ByteArray := prog_10_method_19_code
def yX8_bits : MethodName := ⟨RX8, "bits", "(I)I"⟩
abbrev cX8_flag : ByteArray := prog_10_method_20_code
def yX8_flag : MethodName := ⟨RX8, "flag", "(Z)I"⟩
abbrev cX8_of : ByteArray := prog_10_method_21_code
def yX8_of : MethodName := ⟨RX8, "of", "(II)I"⟩
abbrev cX8_field : ByteArray := prog_10_method_22_code
def yX8_field : MethodName := ⟨RX8, "field", "(II)I"⟩
abbrev cX8_turnedNow : ByteArray := prog_10_method_23_code
def yX8_turnedNow : MethodName := ⟨RX8, "turnedNow", "([I)I"⟩
abbrev cX8_back : ByteArray := prog_10_method_24_code
def yX8_back : MethodName := ⟨RX8, "back", "([I)I"⟩
abbrev cX8_turnedAt : ByteArray := prog_10_method_25_code
def yX8_turnedAt : MethodName := ⟨RX8, "turnedAt", "(I)I"⟩
abbrev cX8_raw : ByteArray := prog_10_method_26_code
def yX8_raw : MethodName := ⟨RX8, "raw", "(II)I"⟩
abbrev cX8_hold : ByteArray := prog_10_method_27_code
def yX8_hold : MethodName := ⟨RX8, "hold", "(III)I"⟩
abbrev cX8_tag : ByteArray := prog_10_method_28_code
def yX8_tag : MethodName := ⟨RX8, "tag", "(II)I"⟩
abbrev cX8_root : ByteArray := prog_10_method_29_code
def yX8_root : MethodName := ⟨RX8, "root", "(II)I"⟩
abbrev cX8_pin : ByteArray := prog_10_method_30_code
def yX8_pin : MethodName := ⟨RX8, "pin", "(IZ)I"⟩
abbrev cX8_feed : ByteArray := prog_10_method_31_code
def yX8_feed : MethodName := ⟨RX8, "feed", "(I)I"⟩
abbrev cX8_isNew : ByteArray := prog_10_method_32_code
def yX8_isNew : MethodName := ⟨RX8, "isNew", "(II)I"⟩
abbrev cX8_gives : ByteArray := prog_10_method_33_code
def yX8_gives : MethodName := ⟨RX8, "gives", "(I)V"⟩
abbrev cX8_begins : ByteArray := prog_10_method_34_code
def yX8_begins : MethodName := ⟨RX8, "begins", "(I)Z"⟩
abbrev cX8_shuts : ByteArray := prog_10_method_35_code
def yX8_shuts : MethodName := ⟨RX8, "shuts", "()V"⟩
abbrev cX8_takes : ByteArray := prog_10_method_36_code
def yX8_takes : MethodName := ⟨RX8, "takes", "(I)Z"⟩
abbrev cX8_told : ByteArray := prog_10_method_37_code
def yX8_told : MethodName := ⟨RX8, "told", "(II)I"⟩
abbrev cX8_build : ByteArray := prog_10_method_38_code
def yX8_build : MethodName := ⟨RX8, "build", "(I)I"⟩
abbrev cX8_starts : ByteArray := prog_10_method_39_code
def yX8_starts : MethodName := ⟨RX8, "starts", "([II)V"⟩
abbrev cX8_marks : ByteArray := prog_10_method_40_code
def yX8_marks : MethodName := ⟨RX8, "marks", "([II)V"⟩
abbrev cX8_stepAtNone : ByteArray := prog_10_method_41_code
def yX8_stepAtNone : MethodName := ⟨RX8, "stepAtNone", "([I)V"⟩
abbrev cX8_goesDown : ByteArray := prog_10_method_42_code
def yX8_goesDown : MethodName := ⟨RX8, "goesDown", "([III)V"⟩
abbrev cX8_goesUp : ByteArray := prog_10_method_43_code
def yX8_goesUp : MethodName := ⟨RX8, "goesUp", "([I)V"⟩
abbrev cX8_steps : ByteArray := prog_10_method_44_code
def yX8_steps : MethodName := ⟨RX8, "steps", "([I)V"⟩
abbrev cX8_goes : ByteArray := prog_10_method_45_code
def yX8_goes : MethodName := ⟨RX8, "goes", "([II)I"⟩
abbrev cX8_there : ByteArray := prog_10_method_46_code
def yX8_there : MethodName := ⟨RX8, "there", "()I"⟩
abbrev cX8_begin : ByteArray := prog_10_method_47_code
def yX8_begin : MethodName := ⟨RX8, "begin", "(I)I"⟩
abbrev cX8_step : ByteArray := prog_10_method_48_code
def yX8_step : MethodName := ⟨RX8, "step", "(I)I"⟩
abbrev cX8_leave : ByteArray := prog_10_method_49_code
def yX8_leave : MethodName := ⟨RX8, "leave", "()I"⟩
abbrev cX8_sweep : ByteArray := prog_10_method_50_code
def yX8_sweep : MethodName := ⟨RX8, "sweep", "()I"⟩
abbrev cX8_left : ByteArray := prog_10_method_51_code
def yX8_left : MethodName := ⟨RX8, "left", "()I"⟩
abbrev cX8_told_ : ByteArray := prog_10_method_52_code
def yX8_told_ : MethodName := ⟨RX8, "told", "(I)I"⟩
abbrev cX8_on : ByteArray := prog_10_method_53_code
def yX8_on : MethodName := ⟨RX8, "on", "(II)I"⟩
abbrev cX8_needs : ByteArray := prog_10_method_54_code
def yX8_needs : MethodName := ⟨RX8, "needs", "(II)I"⟩
abbrev cX8_need : ByteArray := prog_10_method_55_code
def yX8_need : MethodName := ⟨RX8, "need", "(II)I"⟩
abbrev cX8_least : ByteArray := prog_10_method_56_code
def yX8_least : MethodName := ⟨RX8, "least", "(I)I"⟩
abbrev cX8_see : ByteArray := prog_10_method_57_code
def yX8_see : MethodName := ⟨RX8, "see", "(IIZ)I"⟩
abbrev cX8_isSeen : ByteArray := prog_10_method_58_code
def yX8_isSeen : MethodName := ⟨RX8, "isSeen", "([II)Z"⟩
abbrev cX8_fits : ByteArray := prog_10_method_59_code
def yX8_fits : MethodName := ⟨RX8, "fits", "(I)I"⟩
abbrev cX8_can : ByteArray := prog_10_method_60_code
def yX8_can : MethodName := ⟨RX8, "can", "(III)I"⟩
abbrev cX8_lowest : ByteArray := prog_10_method_61_code
def yX8_lowest : MethodName := ⟨RX8, "lowest", "(JJI)J"⟩
abbrev cX8_odds : ByteArray := prog_10_method_62_code
def yX8_odds : MethodName := ⟨RX8, "odds", "(II)J"⟩
abbrev cX8_mean : ByteArray := prog_10_method_63_code
def yX8_mean : MethodName := ⟨RX8, "mean", "(I)J"⟩
abbrev cX8_isPlanned : ByteArray := prog_10_method_64_code
def yX8_isPlanned : MethodName := ⟨RX8, "isPlanned", "(II)Z"⟩
abbrev cX8_plan : ByteArray := prog_10_method_65_code
def yX8_plan : MethodName := ⟨RX8, "plan", "(II)I"⟩
abbrev cX8_ends : ByteArray := prog_10_method_66_code
def yX8_ends : MethodName := ⟨RX8, "ends", "()I"⟩
abbrev cX8_book : ByteArray := prog_10_method_67_code
def yX8_book : MethodName := ⟨RX8, "book", "(III)I"⟩
abbrev cX8_looked : ByteArray := prog_10_method_68_code
def yX8_looked : MethodName := ⟨RX8, "looked", "()I"⟩
abbrev cX8_judge : ByteArray := prog_10_method_69_code
def yX8_judge : MethodName := ⟨RX8, "judge", "(II)I"⟩
abbrev cX8_image : ByteArray := prog_10_method_70_code
def yX8_image : MethodName := ⟨RX8, "image", "()I"⟩
abbrev cX8_undo : ByteArray := prog_10_method_71_code
def yX8_undo : MethodName := ⟨RX8, "undo", "()I"⟩
abbrev cX8_taken : ByteArray := prog_10_method_72_code
def yX8_taken : MethodName := ⟨RX8, "taken", "(II)I"⟩
abbrev cX8_count : ByteArray := prog_10_method_73_code
def yX8_count : MethodName := ⟨RX8, "count", "(I)I"⟩
abbrev cX8_tape : ByteArray := prog_10_method_74_code
def yX8_tape : MethodName := ⟨RX8, "tape", "(III)I"⟩
abbrev cX8_lowestBits : ByteArray := prog_10_method_75_code
def yX8_lowestBits : MethodName := ⟨RX8, "lowestBits", "(IJ)J"⟩
abbrev cX8_item : ByteArray := prog_10_method_76_code
def yX8_item : MethodName := ⟨RX8, "item", "(IIJ)I"⟩
abbrev cX8_read : ByteArray := prog_10_method_77_code
def yX8_read : MethodName := ⟨RX8, "read", "(II)J"⟩
abbrev cX8_shift : ByteArray := prog_10_method_78_code
def yX8_shift : MethodName := ⟨RX8, "shift", "(IIIII)I"⟩
def RJ6 : String := "java/lang/Integer"
abbrev cJ6_bitCount_0f7a4 : ByteArray := prog_11_method_49_code
def yJ6_bitCount_0f7a4 : MethodName := ⟨RJ6, "bitCount", "(I)I"⟩
def RJ9 : String := "java/lang/Math"
abbrev cJ9_max_7cf53 : ByteArray := prog_12_method_65_code
def yJ9_max_7cf53 : MethodName := ⟨RJ9, "max", "(II)I"⟩
abbrev cJ9_min_7cf53 : ByteArray := prog_12_method_69_code
def yJ9_min_7cf53 : MethodName := ⟨RJ9, "min", "(II)I"⟩
def RJ10 : String := "java/lang/System"
def RJ7 : String := "java/util/Arrays"
abbrev cJ7_rangeCheck_23922 : ByteArray := prog_14_method_30_code
def yJ7_rangeCheck_23922 : MethodName := ⟨RJ7, "rangeCheck", "(III)V"⟩
abbrev cJ7_fill_bad5a : ByteArray := prog_14_method_102_code
def yJ7_fill_bad5a : MethodName := ⟨RJ7, "fill", "([JIIJ)V"⟩
abbrev cJ7_fill_53178 : ByteArray := prog_14_method_103_code
def yJ7_fill_53178 : MethodName := ⟨RJ7, "fill", "([II)V"⟩
def RL : String := "ReversedLinksLaw"
abbrev cL_law : ByteArray := code
def yL_law : MethodName := ⟨RL, "law", "([I)Z"⟩
abbrev vwCl : List vw_C := [(RX0, TX0, 8), (RX1, TX1, 2), (RX2, TX2, 15), (RX3, TX3, 2), (RX4, TX4, 5), (RX5, TX5, 3), (RX6, TX6, 9), (RX7, TX7, 8), (RX8, TX8, 20)]
end
section
theorem dX0_init_0 : decode cX0_init 0 = .ok (.aload_n 0, 1) := by decide +kernel
theorem dX0_init_1 : decode cX0_init 1 = .ok (.invokespecial 3, 3) := by decide +kernel
theorem dX0_init_4 : decode cX0_init 4 = .ok (.aload_n 0, 1) := by decide +kernel
theorem dX0_init_5 : decode cX0_init 5 = .ok (.iconst 0, 1) := by decide +kernel
theorem dX0_init_6 : decode cX0_init 6 = .ok (.putfield 9, 3) := by decide +kernel
theorem dX0_init_9 : decode cX0_init 9 = .ok (.aload_n 0, 1) := by decide +kernel
theorem dX0_init_10 : decode cX0_init 10 = .ok (.iconst 0, 1) := by decide +kernel
theorem dX0_init_11 : decode cX0_init 11 = .ok (.putfield 15, 3) := by decide +kernel
theorem dX0_init_14 : decode cX0_init 14 = .ok (.aload_n 0, 1) := by decide +kernel
theorem dX0_init_15 : decode cX0_init 15 = .ok (.iconst 0, 1) := by decide +kernel
theorem dX0_init_16 : decode cX0_init 16 = .ok (.putfield 18, 3) := by decide +kernel
theorem dX0_init_19 : decode cX0_init 19 = .ok (.aload_n 0, 1) := by decide +kernel
theorem dX0_init_20 : decode cX0_init 20 = .ok (.bipush 24, 2) := by decide +kernel
theorem dX0_init_22 : decode cX0_init 22 = .ok (.newarray .int, 2) := by decide +kernel
theorem dX0_init_24 : decode cX0_init 24 = .ok (.putfield 21, 3) := by decide +kernel
theorem dX0_init_27 : decode cX0_init 27 = .ok (.aload_n 0, 1) := by decide +kernel
theorem dX0_init_28 : decode cX0_init 28 = .ok (.bipush 24, 2) := by decide +kernel
theorem dX0_init_30 : decode cX0_init 30 = .ok (.newarray .int, 2) := by decide +kernel
theorem dX0_init_32 : decode cX0_init 32 = .ok (.putfield 25, 3) := by decide +kernel
theorem dX0_init_35 : decode cX0_init 35 = .ok (.aload_n 0, 1) := by decide +kernel
theorem dX0_init_36 : decode cX0_init 36 = .ok (.bipush 24, 2) := by decide +kernel
theorem dX0_init_38 : decode cX0_init 38 = .ok (.newarray .int, 2) := by decide +kernel
theorem dX0_init_40 : decode cX0_init 40 = .ok (.putfield 28, 3) := by decide +kernel
theorem dX0_init_43 : decode cX0_init 43 = .ok (.aload_n 0, 1) := by decide +kernel
theorem dX0_init_44 : decode cX0_init 44 = .ok (.sipush 144, 3) := by decide +kernel
theorem dX0_init_47 : decode cX0_init 47 = .ok (.newarray .int, 2) := by decide +kernel
theorem dX0_init_49 : decode cX0_init 49 = .ok (.putfield 31, 3) := by decide +kernel
theorem dX0_init_52 : decode cX0_init 52 = .ok (.aload_n 0, 1) := by decide +kernel
theorem dX0_init_53 : decode cX0_init 53 = .ok (.iconst 4, 1) := by decide +kernel
theorem dX0_init_54 : decode cX0_init 54 = .ok (.newarray .int, 2) := by decide +kernel
theorem dX0_init_56 : decode cX0_init 56 = .ok (.putfield 34, 3) := by decide +kernel
theorem dX0_init_59 : decode cX0_init 59 = .ok (.aload_n 0, 1) := by decide +kernel
theorem dX0_init_60 : decode cX0_init 60 = .ok (.getfield 34, 3) := by decide +kernel
theorem dX0_init_63 : decode cX0_init 63 = .ok (.bipush (-5), 2) := by decide +kernel
theorem dX0_init_65 : decode cX0_init 65 = .ok (.invokestatic 37, 3) := by decide +kernel
theorem dX0_init_68 : decode cX0_init 68 = .ok (.return_, 1) := by decide +kernel
theorem dX0_copyFrom_0 : decode cX0_copyFrom 0 = .ok (.aload_n 0, 1) := by decide +kernel
theorem dX0_copyFrom_1 : decode cX0_copyFrom 1 = .ok (.aload_n 1, 1) := by decide +kernel
theorem dX0_copyFrom_2 : decode cX0_copyFrom 2 = .ok (.getfield 9, 3) := by decide +kernel
theorem dX0_copyFrom_5 : decode cX0_copyFrom 5 = .ok (.putfield 9, 3) := by decide +kernel
theorem dX0_copyFrom_8 : decode cX0_copyFrom 8 = .ok (.aload_n 0, 1) := by decide +kernel
theorem dX0_copyFrom_9 : decode cX0_copyFrom 9 = .ok (.aload_n 1, 1) := by decide +kernel
theorem dX0_copyFrom_10 : decode cX0_copyFrom 10 = .ok (.getfield 15, 3) := by decide +kernel
theorem dX0_copyFrom_13 : decode cX0_copyFrom 13 = .ok (.putfield 15, 3) := by decide +kernel
theorem dX0_copyFrom_16 : decode cX0_copyFrom 16 = .ok (.aload_n 0, 1) := by decide +kernel
theorem dX0_copyFrom_17 : decode cX0_copyFrom 17 = .ok (.aload_n 1, 1) := by decide +kernel
theorem dX0_copyFrom_18 : decode cX0_copyFrom 18 = .ok (.getfield 18, 3) := by decide +kernel
theorem dX0_copyFrom_21 : decode cX0_copyFrom 21 = .ok (.putfield 18, 3) := by decide +kernel
theorem dX0_copyFrom_24 : decode cX0_copyFrom 24 = .ok (.aload_n 1, 1) := by decide +kernel
theorem dX0_copyFrom_25 : decode cX0_copyFrom 25 = .ok (.getfield 21, 3) := by decide +kernel
theorem dX0_copyFrom_28 : decode cX0_copyFrom 28 = .ok (.iconst 0, 1) := by decide +kernel
theorem dX0_copyFrom_29 : decode cX0_copyFrom 29 = .ok (.aload_n 0, 1) := by decide +kernel
theorem dX0_copyFrom_30 : decode cX0_copyFrom 30 = .ok (.getfield 21, 3) := by decide +kernel
theorem dX0_copyFrom_33 : decode cX0_copyFrom 33 = .ok (.iconst 0, 1) := by decide +kernel
theorem dX0_copyFrom_34 : decode cX0_copyFrom 34 = .ok (.bipush 24, 2) := by decide +kernel
theorem dX0_copyFrom_36 : decode cX0_copyFrom 36 = .ok (.invokestatic 43, 3) := by decide +kernel
theorem dX0_copyFrom_39 : decode cX0_copyFrom 39 = .ok (.aload_n 1, 1) := by decide +kernel
theorem dX0_copyFrom_40 : decode cX0_copyFrom 40 = .ok (.getfield 25, 3) := by decide +kernel
theorem dX0_copyFrom_43 : decode cX0_copyFrom 43 = .ok (.iconst 0, 1) := by decide +kernel
theorem dX0_copyFrom_44 : decode cX0_copyFrom 44 = .ok (.aload_n 0, 1) := by decide +kernel
theorem dX0_copyFrom_45 : decode cX0_copyFrom 45 = .ok (.getfield 25, 3) := by decide +kernel
theorem dX0_copyFrom_48 : decode cX0_copyFrom 48 = .ok (.iconst 0, 1) := by decide +kernel
theorem dX0_copyFrom_49 : decode cX0_copyFrom 49 = .ok (.bipush 24, 2) := by decide +kernel
theorem dX0_copyFrom_51 : decode cX0_copyFrom 51 = .ok (.invokestatic 43, 3) := by decide +kernel
theorem dX0_copyFrom_54 : decode cX0_copyFrom 54 = .ok (.aload_n 1, 1) := by decide +kernel
theorem dX0_copyFrom_55 : decode cX0_copyFrom 55 = .ok (.getfield 28, 3) := by decide +kernel
theorem dX0_copyFrom_58 : decode cX0_copyFrom 58 = .ok (.iconst 0, 1) := by decide +kernel
theorem dX0_copyFrom_59 : decode cX0_copyFrom 59 = .ok (.aload_n 0, 1) := by decide +kernel
theorem dX0_copyFrom_60 : decode cX0_copyFrom 60 = .ok (.getfield 28, 3) := by decide +kernel
theorem dX0_copyFrom_63 : decode cX0_copyFrom 63 = .ok (.iconst 0, 1) := by decide +kernel
theorem dX0_copyFrom_64 : decode cX0_copyFrom 64 = .ok (.bipush 24, 2) := by decide +kernel
theorem dX0_copyFrom_66 : decode cX0_copyFrom 66 = .ok (.invokestatic 43, 3) := by decide +kernel
theorem dX0_copyFrom_69 : decode cX0_copyFrom 69 = .ok (.aload_n 1, 1) := by decide +kernel
theorem dX0_copyFrom_70 : decode cX0_copyFrom 70 = .ok (.getfield 31, 3) := by decide +kernel
theorem dX0_copyFrom_73 : decode cX0_copyFrom 73 = .ok (.iconst 0, 1) := by decide +kernel
theorem dX0_copyFrom_74 : decode cX0_copyFrom 74 = .ok (.aload_n 0, 1) := by decide +kernel
theorem dX0_copyFrom_75 : decode cX0_copyFrom 75 = .ok (.getfield 31, 3) := by decide +kernel
theorem dX0_copyFrom_78 : decode cX0_copyFrom 78 = .ok (.iconst 0, 1) := by decide +kernel
theorem dX0_copyFrom_79 : decode cX0_copyFrom 79 = .ok (.sipush 144, 3) := by decide +kernel
theorem dX0_copyFrom_82 : decode cX0_copyFrom 82 = .ok (.invokestatic 43, 3) := by decide +kernel
theorem dX0_copyFrom_85 : decode cX0_copyFrom 85 = .ok (.aload_n 1, 1) := by decide +kernel
theorem dX0_copyFrom_86 : decode cX0_copyFrom 86 = .ok (.getfield 34, 3) := by decide +kernel
theorem dX0_copyFrom_89 : decode cX0_copyFrom 89 = .ok (.iconst 0, 1) := by decide +kernel
theorem dX0_copyFrom_90 : decode cX0_copyFrom 90 = .ok (.aload_n 0, 1) := by decide +kernel
theorem dX0_copyFrom_91 : decode cX0_copyFrom 91 = .ok (.getfield 34, 3) := by decide +kernel
theorem dX0_copyFrom_94 : decode cX0_copyFrom 94 = .ok (.iconst 0, 1) := by decide +kernel
theorem dX0_copyFrom_95 : decode cX0_copyFrom 95 = .ok (.iconst 4, 1) := by decide +kernel
theorem dX0_copyFrom_96 : decode cX0_copyFrom 96 = .ok (.invokestatic 43, 3) := by decide +kernel
theorem dX0_copyFrom_99 : decode cX0_copyFrom 99 = .ok (.return_, 1) := by decide +kernel
theorem dX0_add_0 : decode cX0_add 0 = .ok (.aload_n 0, 1) := by decide +kernel
theorem dX0_add_1 : decode cX0_add 1 = .ok (.getfield 9, 3) := by decide +kernel
theorem dX0_add_4 : decode cX0_add 4 = .ok (.bipush 24, 2) := by decide +kernel
theorem dX0_add_6 : decode cX0_add 6 = .ok (.if_icmp .lt 6, 3) := by decide +kernel
theorem dX0_add_9 : decode cX0_add 9 = .ok (.bipush (-5), 2) := by decide +kernel
theorem dX0_add_11 : decode cX0_add 11 = .ok (.ireturn, 1) := by decide +kernel
theorem dX0_add_12 : decode cX0_add 12 = .ok (.aload_n 0, 1) := by decide +kernel
theorem dX0_add_13 : decode cX0_add 13 = .ok (.dup, 1) := by decide +kernel
theorem dX0_add_14 : decode cX0_add 14 = .ok (.getfield 9, 3) := by decide +kernel
theorem dX0_add_17 : decode cX0_add 17 = .ok (.dup_x1, 1) := by decide +kernel
theorem dX0_add_18 : decode cX0_add 18 = .ok (.iconst 1, 1) := by decide +kernel
theorem dX0_add_19 : decode cX0_add 19 = .ok (.iadd, 1) := by decide +kernel
theorem dX0_add_20 : decode cX0_add 20 = .ok (.putfield 9, 3) := by decide +kernel
theorem dX0_add_23 : decode cX0_add 23 = .ok (.istore 4, 2) := by decide +kernel
theorem dX0_add_25 : decode cX0_add 25 = .ok (.aload_n 0, 1) := by decide +kernel
theorem dX0_add_26 : decode cX0_add 26 = .ok (.getfield 21, 3) := by decide +kernel
theorem dX0_add_29 : decode cX0_add 29 = .ok (.iload 4, 2) := by decide +kernel
theorem dX0_add_31 : decode cX0_add 31 = .ok (.iload_n 1, 1) := by decide +kernel
theorem dX0_add_32 : decode cX0_add 32 = .ok (.iastore, 1) := by decide +kernel
theorem dX0_add_33 : decode cX0_add 33 = .ok (.aload_n 0, 1) := by decide +kernel
theorem dX0_add_34 : decode cX0_add 34 = .ok (.getfield 25, 3) := by decide +kernel
theorem dX0_add_37 : decode cX0_add 37 = .ok (.iload 4, 2) := by decide +kernel
theorem dX0_add_39 : decode cX0_add 39 = .ok (.iload_n 2, 1) := by decide +kernel
theorem dX0_add_40 : decode cX0_add 40 = .ok (.iastore, 1) := by decide +kernel
theorem dX0_add_41 : decode cX0_add 41 = .ok (.aload_n 0, 1) := by decide +kernel
theorem dX0_add_42 : decode cX0_add 42 = .ok (.dup, 1) := by decide +kernel
theorem dX0_add_43 : decode cX0_add 43 = .ok (.getfield 15, 3) := by decide +kernel
theorem dX0_add_46 : decode cX0_add 46 = .ok (.iload 4, 2) := by decide +kernel
theorem dX0_add_48 : decode cX0_add 48 = .ok (.invokestatic 49, 3) := by decide +kernel
theorem dX0_add_51 : decode cX0_add 51 = .ok (.ior, 1) := by decide +kernel
theorem dX0_add_52 : decode cX0_add 52 = .ok (.putfield 15, 3) := by decide +kernel
theorem dX0_add_55 : decode cX0_add 55 = .ok (.aload_n 0, 1) := by decide +kernel
theorem dX0_add_56 : decode cX0_add 56 = .ok (.getfield 28, 3) := by decide +kernel
theorem dX0_add_59 : decode cX0_add 59 = .ok (.iload 4, 2) := by decide +kernel
theorem dX0_add_61 : decode cX0_add 61 = .ok (.iconst 0, 1) := by decide +kernel
theorem dX0_add_62 : decode cX0_add 62 = .ok (.iastore, 1) := by decide +kernel
theorem dX0_add_63 : decode cX0_add 63 = .ok (.iconst 0, 1) := by decide +kernel
theorem dX0_add_64 : decode cX0_add 64 = .ok (.istore 5, 2) := by decide +kernel
theorem dX0_add_66 : decode cX0_add 66 = .ok (.iload 5, 2) := by decide +kernel
theorem dX0_add_68 : decode cX0_add 68 = .ok (.iload_n 3, 1) := by decide +kernel
theorem dX0_add_69 : decode cX0_add 69 = .ok (.if_icmp .ge 15, 3) := by decide +kernel
theorem dX0_add_72 : decode cX0_add 72 = .ok (.aload_n 0, 1) := by decide +kernel
theorem dX0_add_73 : decode cX0_add 73 = .ok (.iload 4, 2) := by decide +kernel
theorem dX0_add_75 : decode cX0_add 75 = .ok (.invokevirtual 53, 3) := by decide +kernel
theorem dX0_add_78 : decode cX0_add 78 = .ok (.iinc 5 1, 3) := by decide +kernel
theorem dX0_add_81 : decode cX0_add 81 = .ok (.goto (-15), 3) := by decide +kernel
theorem dX0_add_84 : decode cX0_add 84 = .ok (.iload 4, 2) := by decide +kernel
theorem dX0_add_86 : decode cX0_add 86 = .ok (.ireturn, 1) := by decide +kernel
theorem dX0_widen_0 : decode cX0_widen 0 = .ok (.aload_n 0, 1) := by decide +kernel
theorem dX0_widen_1 : decode cX0_widen 1 = .ok (.getfield 15, 3) := by decide +kernel
theorem dX0_widen_4 : decode cX0_widen 4 = .ok (.iload_n 1, 1) := by decide +kernel
theorem dX0_widen_5 : decode cX0_widen 5 = .ok (.invokestatic 57, 3) := by decide +kernel
theorem dX0_widen_8 : decode cX0_widen 8 = .ok (.ifCond .eq 44, 3) := by decide +kernel
theorem dX0_widen_11 : decode cX0_widen 11 = .ok (.aload_n 0, 1) := by decide +kernel
theorem dX0_widen_12 : decode cX0_widen 12 = .ok (.getfield 28, 3) := by decide +kernel
theorem dX0_widen_15 : decode cX0_widen 15 = .ok (.iload_n 1, 1) := by decide +kernel
theorem dX0_widen_16 : decode cX0_widen 16 = .ok (.iaload, 1) := by decide +kernel
theorem dX0_widen_17 : decode cX0_widen 17 = .ok (.bipush 6, 2) := by decide +kernel
theorem dX0_widen_19 : decode cX0_widen 19 = .ok (.if_icmp .ge 33, 3) := by decide +kernel
theorem dX0_widen_22 : decode cX0_widen 22 = .ok (.aload_n 0, 1) := by decide +kernel
theorem dX0_widen_23 : decode cX0_widen 23 = .ok (.getfield 28, 3) := by decide +kernel
theorem dX0_widen_26 : decode cX0_widen 26 = .ok (.iload_n 1, 1) := by decide +kernel
theorem dX0_widen_27 : decode cX0_widen 27 = .ok (.dup2, 1) := by decide +kernel
theorem dX0_widen_28 : decode cX0_widen 28 = .ok (.iaload, 1) := by decide +kernel
theorem dX0_widen_29 : decode cX0_widen 29 = .ok (.iconst 1, 1) := by decide +kernel
theorem dX0_widen_30 : decode cX0_widen 30 = .ok (.iadd, 1) := by decide +kernel
theorem dX0_widen_31 : decode cX0_widen 31 = .ok (.iastore, 1) := by decide +kernel
theorem dX0_widen_32 : decode cX0_widen 32 = .ok (.aload_n 0, 1) := by decide +kernel
theorem dX0_widen_33 : decode cX0_widen 33 = .ok (.getfield 31, 3) := by decide +kernel
theorem dX0_widen_36 : decode cX0_widen 36 = .ok (.iload_n 1, 1) := by decide +kernel
theorem dX0_widen_37 : decode cX0_widen 37 = .ok (.bipush 6, 2) := by decide +kernel
theorem dX0_widen_39 : decode cX0_widen 39 = .ok (.imul, 1) := by decide +kernel
theorem dX0_widen_40 : decode cX0_widen 40 = .ok (.aload_n 0, 1) := by decide +kernel
theorem dX0_widen_41 : decode cX0_widen 41 = .ok (.getfield 28, 3) := by decide +kernel
theorem dX0_widen_44 : decode cX0_widen 44 = .ok (.iload_n 1, 1) := by decide +kernel
theorem dX0_widen_45 : decode cX0_widen 45 = .ok (.iaload, 1) := by decide +kernel
theorem dX0_widen_46 : decode cX0_widen 46 = .ok (.iadd, 1) := by decide +kernel
theorem dX0_widen_47 : decode cX0_widen 47 = .ok (.iconst 1, 1) := by decide +kernel
theorem dX0_widen_48 : decode cX0_widen 48 = .ok (.isub, 1) := by decide +kernel
theorem dX0_widen_49 : decode cX0_widen 49 = .ok (.bipush (-5), 2) := by decide +kernel
theorem dX0_widen_51 : decode cX0_widen 51 = .ok (.iastore, 1) := by decide +kernel
theorem dX0_widen_52 : decode cX0_widen 52 = .ok (.return_, 1) := by decide +kernel
theorem dX0_isThere_0 : decode cX0_isThere 0 = .ok (.aload_n 0, 1) := by decide +kernel
theorem dX0_isThere_1 : decode cX0_isThere 1 = .ok (.getfield 15, 3) := by decide +kernel
theorem dX0_isThere_4 : decode cX0_isThere 4 = .ok (.iload_n 1, 1) := by decide +kernel
theorem dX0_isThere_5 : decode cX0_isThere 5 = .ok (.invokestatic 57, 3) := by decide +kernel
theorem dX0_isThere_8 : decode cX0_isThere 8 = .ok (.ireturn, 1) := by decide +kernel
theorem dX0_isThereOrNothing_0 : decode cX0_isThereOrNothing 0 = .ok (.iload_n 1, 1) := by decide +kernel
theorem dX0_isThereOrNothing_1 : decode cX0_isThereOrNothing 1 = .ok (.iconst (-1), 1) := by decide +kernel
theorem dX0_isThereOrNothing_2 : decode cX0_isThereOrNothing 2 = .ok (.if_icmp .eq 11, 3) := by decide +kernel
theorem dX0_isThereOrNothing_5 : decode cX0_isThereOrNothing 5 = .ok (.aload_n 0, 1) := by decide +kernel
theorem dX0_isThereOrNothing_6 : decode cX0_isThereOrNothing 6 = .ok (.iload_n 1, 1) := by decide +kernel
theorem dX0_isThereOrNothing_7 : decode cX0_isThereOrNothing 7 = .ok (.invokevirtual 61, 3) := by decide +kernel
theorem dX0_isThereOrNothing_10 : decode cX0_isThereOrNothing 10 = .ok (.ifCond .eq 7, 3) := by decide +kernel
theorem dX0_isThereOrNothing_13 : decode cX0_isThereOrNothing 13 = .ok (.iconst 1, 1) := by decide +kernel
theorem dX0_isThereOrNothing_14 : decode cX0_isThereOrNothing 14 = .ok (.goto 4, 3) := by decide +kernel
theorem dX0_isThereOrNothing_17 : decode cX0_isThereOrNothing 17 = .ok (.iconst 0, 1) := by decide +kernel
theorem dX0_isThereOrNothing_18 : decode cX0_isThereOrNothing 18 = .ok (.ireturn, 1) := by decide +kernel
theorem dX0_isField_0 : decode cX0_isField 0 = .ok (.iload_n 1, 1) := by decide +kernel
theorem dX0_isField_1 : decode cX0_isField 1 = .ok (.ifCond .lt 24, 3) := by decide +kernel
theorem dX0_isField_4 : decode cX0_isField 4 = .ok (.iload_n 1, 1) := by decide +kernel
theorem dX0_isField_5 : decode cX0_isField 5 = .ok (.bipush 24, 2) := by decide +kernel
theorem dX0_isField_7 : decode cX0_isField 7 = .ok (.if_icmp .ge 18, 3) := by decide +kernel
theorem dX0_isField_10 : decode cX0_isField 10 = .ok (.aload_n 0, 1) := by decide +kernel
theorem dX0_isField_11 : decode cX0_isField 11 = .ok (.getfield 15, 3) := by decide +kernel
theorem dX0_isField_14 : decode cX0_isField 14 = .ok (.iload_n 1, 1) := by decide +kernel
theorem dX0_isField_15 : decode cX0_isField 15 = .ok (.ishr, 1) := by decide +kernel
theorem dX0_isField_16 : decode cX0_isField 16 = .ok (.iconst 1, 1) := by decide +kernel
theorem dX0_isField_17 : decode cX0_isField 17 = .ok (.iand, 1) := by decide +kernel
theorem dX0_isField_18 : decode cX0_isField 18 = .ok (.ifCond .eq 7, 3) := by decide +kernel
theorem dX0_isField_21 : decode cX0_isField 21 = .ok (.iconst 1, 1) := by decide +kernel
theorem dX0_isField_22 : decode cX0_isField 22 = .ok (.goto 4, 3) := by decide +kernel
theorem dX0_isField_25 : decode cX0_isField 25 = .ok (.iconst 0, 1) := by decide +kernel
theorem dX0_isField_26 : decode cX0_isField 26 = .ok (.istore_n 3, 1) := by decide +kernel
theorem dX0_isField_27 : decode cX0_isField 27 = .ok (.iload_n 3, 1) := by decide +kernel
theorem dX0_isField_28 : decode cX0_isField 28 = .ok (.ifCond .eq 21, 3) := by decide +kernel
theorem dX0_isField_31 : decode cX0_isField 31 = .ok (.iload_n 2, 1) := by decide +kernel
theorem dX0_isField_32 : decode cX0_isField 32 = .ok (.ifCond .lt 17, 3) := by decide +kernel
theorem dX0_isField_35 : decode cX0_isField 35 = .ok (.iload_n 2, 1) := by decide +kernel
theorem dX0_isField_36 : decode cX0_isField 36 = .ok (.aload_n 0, 1) := by decide +kernel
theorem dX0_isField_37 : decode cX0_isField 37 = .ok (.getfield 28, 3) := by decide +kernel
theorem dX0_isField_40 : decode cX0_isField 40 = .ok (.iload_n 1, 1) := by decide +kernel
theorem dX0_isField_41 : decode cX0_isField 41 = .ok (.iaload, 1) := by decide +kernel
theorem dX0_isField_42 : decode cX0_isField 42 = .ok (.if_icmp .ge 7, 3) := by decide +kernel
theorem dX0_isField_45 : decode cX0_isField 45 = .ok (.iconst 1, 1) := by decide +kernel
theorem dX0_isField_46 : decode cX0_isField 46 = .ok (.goto 4, 3) := by decide +kernel
theorem dX0_isField_49 : decode cX0_isField 49 = .ok (.iconst 0, 1) := by decide +kernel
theorem dX0_isField_50 : decode cX0_isField 50 = .ok (.ireturn, 1) := by decide +kernel
theorem dX0_layoutOf_0 : decode cX0_layoutOf 0 = .ok (.aload_n 0, 1) := by decide +kernel
theorem dX0_layoutOf_1 : decode cX0_layoutOf 1 = .ok (.iload_n 1, 1) := by decide +kernel
theorem dX0_layoutOf_2 : decode cX0_layoutOf 2 = .ok (.invokevirtual 61, 3) := by decide +kernel
theorem dX0_layoutOf_5 : decode cX0_layoutOf 5 = .ok (.ifCond .eq 12, 3) := by decide +kernel
theorem dX0_layoutOf_8 : decode cX0_layoutOf 8 = .ok (.aload_n 0, 1) := by decide +kernel
theorem dX0_layoutOf_9 : decode cX0_layoutOf 9 = .ok (.getfield 21, 3) := by decide +kernel
theorem dX0_layoutOf_12 : decode cX0_layoutOf 12 = .ok (.iload_n 1, 1) := by decide +kernel
theorem dX0_layoutOf_13 : decode cX0_layoutOf 13 = .ok (.iaload, 1) := by decide +kernel
theorem dX0_layoutOf_14 : decode cX0_layoutOf 14 = .ok (.goto 4, 3) := by decide +kernel
theorem dX0_layoutOf_17 : decode cX0_layoutOf 17 = .ok (.iconst (-1), 1) := by decide +kernel
theorem dX0_layoutOf_18 : decode cX0_layoutOf 18 = .ok (.ireturn, 1) := by decide +kernel
theorem dX0_tagOf_0 : decode cX0_tagOf 0 = .ok (.aload_n 0, 1) := by decide +kernel
theorem dX0_tagOf_1 : decode cX0_tagOf 1 = .ok (.iload_n 1, 1) := by decide +kernel
theorem dX0_tagOf_2 : decode cX0_tagOf 2 = .ok (.invokevirtual 61, 3) := by decide +kernel
theorem dX0_tagOf_5 : decode cX0_tagOf 5 = .ok (.ifCond .eq 12, 3) := by decide +kernel
theorem dX0_tagOf_8 : decode cX0_tagOf 8 = .ok (.aload_n 0, 1) := by decide +kernel
theorem dX0_tagOf_9 : decode cX0_tagOf 9 = .ok (.getfield 25, 3) := by decide +kernel
theorem dX0_tagOf_12 : decode cX0_tagOf 12 = .ok (.iload_n 1, 1) := by decide +kernel
theorem dX0_tagOf_13 : decode cX0_tagOf 13 = .ok (.iaload, 1) := by decide +kernel
theorem dX0_tagOf_14 : decode cX0_tagOf 14 = .ok (.goto 4, 3) := by decide +kernel
theorem dX0_tagOf_17 : decode cX0_tagOf 17 = .ok (.iconst (-1), 1) := by decide +kernel
theorem dX0_tagOf_18 : decode cX0_tagOf 18 = .ok (.ireturn, 1) := by decide +kernel
theorem dX0_sizeOf_0 : decode cX0_sizeOf 0 = .ok (.aload_n 0, 1) := by decide +kernel
theorem dX0_sizeOf_1 : decode cX0_sizeOf 1 = .ok (.getfield 15, 3) := by decide +kernel
theorem dX0_sizeOf_4 : decode cX0_sizeOf 4 = .ok (.iload_n 1, 1) := by decide +kernel
theorem dX0_sizeOf_5 : decode cX0_sizeOf 5 = .ok (.invokestatic 57, 3) := by decide +kernel
theorem dX0_sizeOf_8 : decode cX0_sizeOf 8 = .ok (.ifCond .eq 12, 3) := by decide +kernel
theorem dX0_sizeOf_11 : decode cX0_sizeOf 11 = .ok (.aload_n 0, 1) := by decide +kernel
theorem dX0_sizeOf_12 : decode cX0_sizeOf 12 = .ok (.getfield 28, 3) := by decide +kernel
theorem dX0_sizeOf_15 : decode cX0_sizeOf 15 = .ok (.iload_n 1, 1) := by decide +kernel
theorem dX0_sizeOf_16 : decode cX0_sizeOf 16 = .ok (.iaload, 1) := by decide +kernel
theorem dX0_sizeOf_17 : decode cX0_sizeOf 17 = .ok (.goto 4, 3) := by decide +kernel
theorem dX0_sizeOf_20 : decode cX0_sizeOf 20 = .ok (.iconst 0, 1) := by decide +kernel
theorem dX0_sizeOf_21 : decode cX0_sizeOf 21 = .ok (.ireturn, 1) := by decide +kernel
theorem dX0_heldBy_0 : decode cX0_heldBy 0 = .ok (.aload_n 0, 1) := by decide +kernel
theorem dX0_heldBy_1 : decode cX0_heldBy 1 = .ok (.iload_n 1, 1) := by decide +kernel
theorem dX0_heldBy_2 : decode cX0_heldBy 2 = .ok (.iload_n 2, 1) := by decide +kernel
theorem dX0_heldBy_3 : decode cX0_heldBy 3 = .ok (.invokevirtual 65, 3) := by decide +kernel
theorem dX0_heldBy_6 : decode cX0_heldBy 6 = .ok (.ifCond .eq 17, 3) := by decide +kernel
theorem dX0_heldBy_9 : decode cX0_heldBy 9 = .ok (.aload_n 0, 1) := by decide +kernel
theorem dX0_heldBy_10 : decode cX0_heldBy 10 = .ok (.getfield 31, 3) := by decide +kernel
theorem dX0_heldBy_13 : decode cX0_heldBy 13 = .ok (.iload_n 1, 1) := by decide +kernel
theorem dX0_heldBy_14 : decode cX0_heldBy 14 = .ok (.bipush 6, 2) := by decide +kernel
theorem dX0_heldBy_16 : decode cX0_heldBy 16 = .ok (.imul, 1) := by decide +kernel
theorem dX0_heldBy_17 : decode cX0_heldBy 17 = .ok (.iload_n 2, 1) := by decide +kernel
theorem dX0_heldBy_18 : decode cX0_heldBy 18 = .ok (.iadd, 1) := by decide +kernel
theorem dX0_heldBy_19 : decode cX0_heldBy 19 = .ok (.iaload, 1) := by decide +kernel
theorem dX0_heldBy_20 : decode cX0_heldBy 20 = .ok (.goto 5, 3) := by decide +kernel
theorem dX0_heldBy_23 : decode cX0_heldBy 23 = .ok (.bipush (-5), 2) := by decide +kernel
theorem dX0_heldBy_25 : decode cX0_heldBy 25 = .ok (.ireturn, 1) := by decide +kernel
theorem dX0_heldByRoot_0 : decode cX0_heldByRoot 0 = .ok (.iload_n 1, 1) := by decide +kernel
theorem dX0_heldByRoot_1 : decode cX0_heldByRoot 1 = .ok (.invokestatic 68, 3) := by decide +kernel
theorem dX0_heldByRoot_4 : decode cX0_heldByRoot 4 = .ok (.ifCond .eq 12, 3) := by decide +kernel
theorem dX0_heldByRoot_7 : decode cX0_heldByRoot 7 = .ok (.aload_n 0, 1) := by decide +kernel
theorem dX0_heldByRoot_8 : decode cX0_heldByRoot 8 = .ok (.getfield 34, 3) := by decide +kernel
theorem dX0_heldByRoot_11 : decode cX0_heldByRoot 11 = .ok (.iload_n 1, 1) := by decide +kernel
theorem dX0_heldByRoot_12 : decode cX0_heldByRoot 12 = .ok (.iaload, 1) := by decide +kernel
theorem dX0_heldByRoot_13 : decode cX0_heldByRoot 13 = .ok (.goto 5, 3) := by decide +kernel
theorem dX0_heldByRoot_16 : decode cX0_heldByRoot 16 = .ok (.bipush (-5), 2) := by decide +kernel
theorem dX0_heldByRoot_18 : decode cX0_heldByRoot 18 = .ok (.ireturn, 1) := by decide +kernel
theorem dX0_retag_0 : decode cX0_retag 0 = .ok (.aload_n 0, 1) := by decide +kernel
theorem dX0_retag_1 : decode cX0_retag 1 = .ok (.iload_n 1, 1) := by decide +kernel
theorem dX0_retag_2 : decode cX0_retag 2 = .ok (.invokevirtual 61, 3) := by decide +kernel
theorem dX0_retag_5 : decode cX0_retag 5 = .ok (.ifCond .eq 10, 3) := by decide +kernel
theorem dX0_retag_8 : decode cX0_retag 8 = .ok (.aload_n 0, 1) := by decide +kernel
theorem dX0_retag_9 : decode cX0_retag 9 = .ok (.getfield 25, 3) := by decide +kernel
theorem dX0_retag_12 : decode cX0_retag 12 = .ok (.iload_n 1, 1) := by decide +kernel
theorem dX0_retag_13 : decode cX0_retag 13 = .ok (.iload_n 2, 1) := by decide +kernel
theorem dX0_retag_14 : decode cX0_retag 14 = .ok (.iastore, 1) := by decide +kernel
theorem dX0_retag_15 : decode cX0_retag 15 = .ok (.return_, 1) := by decide +kernel
theorem dX0_putInto_0 : decode cX0_putInto 0 = .ok (.aload_n 0, 1) := by decide +kernel
theorem dX0_putInto_1 : decode cX0_putInto 1 = .ok (.iload_n 1, 1) := by decide +kernel
theorem dX0_putInto_2 : decode cX0_putInto 2 = .ok (.iload_n 2, 1) := by decide +kernel
theorem dX0_putInto_3 : decode cX0_putInto 3 = .ok (.invokevirtual 65, 3) := by decide +kernel
theorem dX0_putInto_6 : decode cX0_putInto 6 = .ok (.ifCond .eq 15, 3) := by decide +kernel
theorem dX0_putInto_9 : decode cX0_putInto 9 = .ok (.aload_n 0, 1) := by decide +kernel
theorem dX0_putInto_10 : decode cX0_putInto 10 = .ok (.getfield 31, 3) := by decide +kernel
theorem dX0_putInto_13 : decode cX0_putInto 13 = .ok (.iload_n 1, 1) := by decide +kernel
theorem dX0_putInto_14 : decode cX0_putInto 14 = .ok (.bipush 6, 2) := by decide +kernel
theorem dX0_putInto_16 : decode cX0_putInto 16 = .ok (.imul, 1) := by decide +kernel
theorem dX0_putInto_17 : decode cX0_putInto 17 = .ok (.iload_n 2, 1) := by decide +kernel
theorem dX0_putInto_18 : decode cX0_putInto 18 = .ok (.iadd, 1) := by decide +kernel
theorem dX0_putInto_19 : decode cX0_putInto 19 = .ok (.iload_n 3, 1) := by decide +kernel
theorem dX0_putInto_20 : decode cX0_putInto 20 = .ok (.iastore, 1) := by decide +kernel
theorem dX0_putInto_21 : decode cX0_putInto 21 = .ok (.return_, 1) := by decide +kernel
theorem dX0_putIntoRoot_0 : decode cX0_putIntoRoot 0 = .ok (.iload_n 1, 1) := by decide +kernel
theorem dX0_putIntoRoot_1 : decode cX0_putIntoRoot 1 = .ok (.invokestatic 68, 3) := by decide +kernel
theorem dX0_putIntoRoot_4 : decode cX0_putIntoRoot 4 = .ok (.ifCond .eq 10, 3) := by decide +kernel
theorem dX0_putIntoRoot_7 : decode cX0_putIntoRoot 7 = .ok (.aload_n 0, 1) := by decide +kernel
theorem dX0_putIntoRoot_8 : decode cX0_putIntoRoot 8 = .ok (.getfield 34, 3) := by decide +kernel
theorem dX0_putIntoRoot_11 : decode cX0_putIntoRoot 11 = .ok (.iload_n 1, 1) := by decide +kernel
theorem dX0_putIntoRoot_12 : decode cX0_putIntoRoot 12 = .ok (.iload_n 2, 1) := by decide +kernel
theorem dX0_putIntoRoot_13 : decode cX0_putIntoRoot 13 = .ok (.iastore, 1) := by decide +kernel
theorem dX0_putIntoRoot_14 : decode cX0_putIntoRoot 14 = .ok (.return_, 1) := by decide +kernel
theorem dX0_leadsTo_0 : decode cX0_leadsTo 0 = .ok (.aload_n 0, 1) := by decide +kernel
theorem dX0_leadsTo_1 : decode cX0_leadsTo 1 = .ok (.iload_n 1, 1) := by decide +kernel
theorem dX0_leadsTo_2 : decode cX0_leadsTo 2 = .ok (.iload_n 2, 1) := by decide +kernel
theorem dX0_leadsTo_3 : decode cX0_leadsTo 3 = .ok (.invokevirtual 65, 3) := by decide +kernel
theorem dX0_leadsTo_6 : decode cX0_leadsTo 6 = .ok (.ifCond .eq 22, 3) := by decide +kernel
theorem dX0_leadsTo_9 : decode cX0_leadsTo 9 = .ok (.aload_n 0, 1) := by decide +kernel
theorem dX0_leadsTo_10 : decode cX0_leadsTo 10 = .ok (.getfield 21, 3) := by decide +kernel
theorem dX0_leadsTo_13 : decode cX0_leadsTo 13 = .ok (.iload_n 1, 1) := by decide +kernel
theorem dX0_leadsTo_14 : decode cX0_leadsTo 14 = .ok (.iaload, 1) := by decide +kernel
theorem dX0_leadsTo_15 : decode cX0_leadsTo 15 = .ok (.aload_n 0, 1) := by decide +kernel
theorem dX0_leadsTo_16 : decode cX0_leadsTo 16 = .ok (.getfield 25, 3) := by decide +kernel
theorem dX0_leadsTo_19 : decode cX0_leadsTo 19 = .ok (.iload_n 1, 1) := by decide +kernel
theorem dX0_leadsTo_20 : decode cX0_leadsTo 20 = .ok (.iaload, 1) := by decide +kernel
theorem dX0_leadsTo_21 : decode cX0_leadsTo 21 = .ok (.iload_n 2, 1) := by decide +kernel
theorem dX0_leadsTo_22 : decode cX0_leadsTo 22 = .ok (.invokestatic 71, 3) := by decide +kernel
theorem dX0_leadsTo_25 : decode cX0_leadsTo 25 = .ok (.ifCond .ne 6, 3) := by decide +kernel
theorem dX0_leadsTo_28 : decode cX0_leadsTo 28 = .ok (.bipush (-5), 2) := by decide +kernel
theorem dX0_leadsTo_30 : decode cX0_leadsTo 30 = .ok (.ireturn, 1) := by decide +kernel
theorem dX0_leadsTo_31 : decode cX0_leadsTo 31 = .ok (.aload_n 0, 1) := by decide +kernel
theorem dX0_leadsTo_32 : decode cX0_leadsTo 32 = .ok (.getfield 31, 3) := by decide +kernel
theorem dX0_leadsTo_35 : decode cX0_leadsTo 35 = .ok (.iload_n 1, 1) := by decide +kernel
theorem dX0_leadsTo_36 : decode cX0_leadsTo 36 = .ok (.bipush 6, 2) := by decide +kernel
theorem dX0_leadsTo_38 : decode cX0_leadsTo 38 = .ok (.imul, 1) := by decide +kernel
theorem dX0_leadsTo_39 : decode cX0_leadsTo 39 = .ok (.iload_n 2, 1) := by decide +kernel
theorem dX0_leadsTo_40 : decode cX0_leadsTo 40 = .ok (.iadd, 1) := by decide +kernel
theorem dX0_leadsTo_41 : decode cX0_leadsTo 41 = .ok (.iaload, 1) := by decide +kernel
theorem dX0_leadsTo_42 : decode cX0_leadsTo 42 = .ok (.ireturn, 1) := by decide +kernel
theorem dX0_linksOf_0 : decode cX0_linksOf 0 = .ok (.iconst 0, 1) := by decide +kernel
theorem dX0_linksOf_1 : decode cX0_linksOf 1 = .ok (.istore_n 3, 1) := by decide +kernel
theorem dX0_linksOf_2 : decode cX0_linksOf 2 = .ok (.iconst 0, 1) := by decide +kernel
theorem dX0_linksOf_3 : decode cX0_linksOf 3 = .ok (.istore 4, 2) := by decide +kernel
theorem dX0_linksOf_5 : decode cX0_linksOf 5 = .ok (.iload 4, 2) := by decide +kernel
theorem dX0_linksOf_7 : decode cX0_linksOf 7 = .ok (.aload_n 0, 1) := by decide +kernel
theorem dX0_linksOf_8 : decode cX0_linksOf 8 = .ok (.iload_n 1, 1) := by decide +kernel
theorem dX0_linksOf_9 : decode cX0_linksOf 9 = .ok (.invokevirtual 75, 3) := by decide +kernel
theorem dX0_linksOf_12 : decode cX0_linksOf 12 = .ok (.if_icmp .ge 28, 3) := by decide +kernel
theorem dX0_linksOf_15 : decode cX0_linksOf 15 = .ok (.iload 4, 2) := by decide +kernel
theorem dX0_linksOf_17 : decode cX0_linksOf 17 = .ok (.iload_n 2, 1) := by decide +kernel
theorem dX0_linksOf_18 : decode cX0_linksOf 18 = .ok (.if_icmp .eq 16, 3) := by decide +kernel
theorem dX0_linksOf_21 : decode cX0_linksOf 21 = .ok (.iload_n 3, 1) := by decide +kernel
theorem dX0_linksOf_22 : decode cX0_linksOf 22 = .ok (.aload_n 0, 1) := by decide +kernel
theorem dX0_linksOf_23 : decode cX0_linksOf 23 = .ok (.iload_n 1, 1) := by decide +kernel
theorem dX0_linksOf_24 : decode cX0_linksOf 24 = .ok (.iload 4, 2) := by decide +kernel
theorem dX0_linksOf_26 : decode cX0_linksOf 26 = .ok (.invokevirtual 78, 3) := by decide +kernel
theorem dX0_linksOf_29 : decode cX0_linksOf 29 = .ok (.invokestatic 49, 3) := by decide +kernel
theorem dX0_linksOf_32 : decode cX0_linksOf 32 = .ok (.ior, 1) := by decide +kernel
theorem dX0_linksOf_33 : decode cX0_linksOf 33 = .ok (.istore_n 3, 1) := by decide +kernel
theorem dX0_linksOf_34 : decode cX0_linksOf 34 = .ok (.iinc 4 1, 3) := by decide +kernel
theorem dX0_linksOf_37 : decode cX0_linksOf 37 = .ok (.goto (-32), 3) := by decide +kernel
theorem dX0_linksOf_40 : decode cX0_linksOf 40 = .ok (.iload_n 3, 1) := by decide +kernel
theorem dX0_linksOf_41 : decode cX0_linksOf 41 = .ok (.ireturn, 1) := by decide +kernel
theorem dX0_heldByRoots_0 : decode cX0_heldByRoots 0 = .ok (.iconst 0, 1) := by decide +kernel
theorem dX0_heldByRoots_1 : decode cX0_heldByRoots 1 = .ok (.istore_n 1, 1) := by decide +kernel
theorem dX0_heldByRoots_2 : decode cX0_heldByRoots 2 = .ok (.iconst 0, 1) := by decide +kernel
theorem dX0_heldByRoots_3 : decode cX0_heldByRoots 3 = .ok (.istore_n 2, 1) := by decide +kernel
theorem dX0_heldByRoots_4 : decode cX0_heldByRoots 4 = .ok (.iload_n 2, 1) := by decide +kernel
theorem dX0_heldByRoots_5 : decode cX0_heldByRoots 5 = .ok (.iconst 4, 1) := by decide +kernel
theorem dX0_heldByRoots_6 : decode cX0_heldByRoots 6 = .ok (.if_icmp .ge 21, 3) := by decide +kernel
theorem dX0_heldByRoots_9 : decode cX0_heldByRoots 9 = .ok (.iload_n 1, 1) := by decide +kernel
theorem dX0_heldByRoots_10 : decode cX0_heldByRoots 10 = .ok (.aload_n 0, 1) := by decide +kernel
theorem dX0_heldByRoots_11 : decode cX0_heldByRoots 11 = .ok (.getfield 34, 3) := by decide +kernel
theorem dX0_heldByRoots_14 : decode cX0_heldByRoots 14 = .ok (.iload_n 2, 1) := by decide +kernel
theorem dX0_heldByRoots_15 : decode cX0_heldByRoots 15 = .ok (.iaload, 1) := by decide +kernel
theorem dX0_heldByRoots_16 : decode cX0_heldByRoots 16 = .ok (.invokestatic 49, 3) := by decide +kernel
theorem dX0_heldByRoots_19 : decode cX0_heldByRoots 19 = .ok (.ior, 1) := by decide +kernel
theorem dX0_heldByRoots_20 : decode cX0_heldByRoots 20 = .ok (.istore_n 1, 1) := by decide +kernel
theorem dX0_heldByRoots_21 : decode cX0_heldByRoots 21 = .ok (.iinc 2 1, 3) := by decide +kernel
theorem dX0_heldByRoots_24 : decode cX0_heldByRoots 24 = .ok (.goto (-20), 3) := by decide +kernel
theorem dX0_heldByRoots_27 : decode cX0_heldByRoots 27 = .ok (.iload_n 1, 1) := by decide +kernel
theorem dX0_heldByRoots_28 : decode cX0_heldByRoots 28 = .ok (.ireturn, 1) := by decide +kernel
theorem dX0_holders_0 : decode cX0_holders 0 = .ok (.iconst 0, 1) := by decide +kernel
theorem dX0_holders_1 : decode cX0_holders 1 = .ok (.istore_n 2, 1) := by decide +kernel
theorem dX0_holders_2 : decode cX0_holders 2 = .ok (.iconst 0, 1) := by decide +kernel
theorem dX0_holders_3 : decode cX0_holders 3 = .ok (.istore_n 3, 1) := by decide +kernel
theorem dX0_holders_4 : decode cX0_holders 4 = .ok (.iload_n 3, 1) := by decide +kernel
theorem dX0_holders_5 : decode cX0_holders 5 = .ok (.bipush 24, 2) := by decide +kernel
theorem dX0_holders_7 : decode cX0_holders 7 = .ok (.if_icmp .ge 50, 3) := by decide +kernel
theorem dX0_holders_10 : decode cX0_holders 10 = .ok (.iconst 0, 1) := by decide +kernel
theorem dX0_holders_11 : decode cX0_holders 11 = .ok (.istore 4, 2) := by decide +kernel
theorem dX0_holders_13 : decode cX0_holders 13 = .ok (.iload 4, 2) := by decide +kernel
theorem dX0_holders_15 : decode cX0_holders 15 = .ok (.aload_n 0, 1) := by decide +kernel
theorem dX0_holders_16 : decode cX0_holders 16 = .ok (.iload_n 3, 1) := by decide +kernel
theorem dX0_holders_17 : decode cX0_holders 17 = .ok (.invokevirtual 75, 3) := by decide +kernel
theorem dX0_holders_20 : decode cX0_holders 20 = .ok (.if_icmp .ge 31, 3) := by decide +kernel
theorem dX0_holders_23 : decode cX0_holders 23 = .ok (.iload_n 2, 1) := by decide +kernel
theorem dX0_holders_24 : decode cX0_holders 24 = .ok (.aload_n 0, 1) := by decide +kernel
theorem dX0_holders_25 : decode cX0_holders 25 = .ok (.iload_n 3, 1) := by decide +kernel
theorem dX0_holders_26 : decode cX0_holders 26 = .ok (.iload 4, 2) := by decide +kernel
theorem dX0_holders_28 : decode cX0_holders 28 = .ok (.invokevirtual 82, 3) := by decide +kernel
theorem dX0_holders_31 : decode cX0_holders 31 = .ok (.iload_n 1, 1) := by decide +kernel
theorem dX0_holders_32 : decode cX0_holders 32 = .ok (.if_icmp .ne 7, 3) := by decide +kernel
theorem dX0_holders_35 : decode cX0_holders 35 = .ok (.iconst 1, 1) := by decide +kernel
theorem dX0_holders_36 : decode cX0_holders 36 = .ok (.goto 4, 3) := by decide +kernel
theorem dX0_holders_39 : decode cX0_holders 39 = .ok (.iconst 0, 1) := by decide +kernel
theorem dX0_holders_40 : decode cX0_holders 40 = .ok (.invokestatic 85, 3) := by decide +kernel
theorem dX0_holders_43 : decode cX0_holders 43 = .ok (.iadd, 1) := by decide +kernel
theorem dX0_holders_44 : decode cX0_holders 44 = .ok (.istore_n 2, 1) := by decide +kernel
theorem dX0_holders_45 : decode cX0_holders 45 = .ok (.iinc 4 1, 3) := by decide +kernel
theorem dX0_holders_48 : decode cX0_holders 48 = .ok (.goto (-35), 3) := by decide +kernel
theorem dX0_holders_51 : decode cX0_holders 51 = .ok (.iinc 3 1, 3) := by decide +kernel
theorem dX0_holders_54 : decode cX0_holders 54 = .ok (.goto (-50), 3) := by decide +kernel
theorem dX0_holders_57 : decode cX0_holders 57 = .ok (.iload_n 2, 1) := by decide +kernel
theorem dX0_holders_58 : decode cX0_holders 58 = .ok (.ireturn, 1) := by decide +kernel
theorem dX0_keepOnly_0 : decode cX0_keepOnly 0 = .ok (.aload_n 0, 1) := by decide +kernel
theorem dX0_keepOnly_1 : decode cX0_keepOnly 1 = .ok (.getfield 15, 3) := by decide +kernel
theorem dX0_keepOnly_4 : decode cX0_keepOnly 4 = .ok (.iload_n 1, 1) := by decide +kernel
theorem dX0_keepOnly_5 : decode cX0_keepOnly 5 = .ok (.iconst (-1), 1) := by decide +kernel
theorem dX0_keepOnly_6 : decode cX0_keepOnly 6 = .ok (.ixor, 1) := by decide +kernel
theorem dX0_keepOnly_7 : decode cX0_keepOnly 7 = .ok (.iand, 1) := by decide +kernel
theorem dX0_keepOnly_8 : decode cX0_keepOnly 8 = .ok (.istore_n 2, 1) := by decide +kernel
theorem dX0_keepOnly_9 : decode cX0_keepOnly 9 = .ok (.aload_n 0, 1) := by decide +kernel
theorem dX0_keepOnly_10 : decode cX0_keepOnly 10 = .ok (.dup, 1) := by decide +kernel
theorem dX0_keepOnly_11 : decode cX0_keepOnly 11 = .ok (.getfield 15, 3) := by decide +kernel
theorem dX0_keepOnly_14 : decode cX0_keepOnly 14 = .ok (.iload_n 1, 1) := by decide +kernel
theorem dX0_keepOnly_15 : decode cX0_keepOnly 15 = .ok (.iand, 1) := by decide +kernel
theorem dX0_keepOnly_16 : decode cX0_keepOnly 16 = .ok (.putfield 15, 3) := by decide +kernel
theorem dX0_keepOnly_19 : decode cX0_keepOnly 19 = .ok (.iconst 0, 1) := by decide +kernel
theorem dX0_keepOnly_20 : decode cX0_keepOnly 20 = .ok (.istore_n 3, 1) := by decide +kernel
theorem dX0_keepOnly_21 : decode cX0_keepOnly 21 = .ok (.iload_n 3, 1) := by decide +kernel
theorem dX0_keepOnly_22 : decode cX0_keepOnly 22 = .ok (.bipush 24, 2) := by decide +kernel
theorem dX0_keepOnly_24 : decode cX0_keepOnly 24 = .ok (.if_icmp .ge 51, 3) := by decide +kernel
theorem dX0_keepOnly_27 : decode cX0_keepOnly 27 = .ok (.iconst 0, 1) := by decide +kernel
theorem dX0_keepOnly_28 : decode cX0_keepOnly 28 = .ok (.istore 4, 2) := by decide +kernel
theorem dX0_keepOnly_30 : decode cX0_keepOnly 30 = .ok (.iload 4, 2) := by decide +kernel
theorem dX0_keepOnly_32 : decode cX0_keepOnly 32 = .ok (.aload_n 0, 1) := by decide +kernel
theorem dX0_keepOnly_33 : decode cX0_keepOnly 33 = .ok (.iload_n 3, 1) := by decide +kernel
theorem dX0_keepOnly_34 : decode cX0_keepOnly 34 = .ok (.invokevirtual 75, 3) := by decide +kernel
theorem dX0_keepOnly_37 : decode cX0_keepOnly 37 = .ok (.if_icmp .ge 32, 3) := by decide +kernel
theorem dX0_keepOnly_40 : decode cX0_keepOnly 40 = .ok (.aload_n 0, 1) := by decide +kernel
theorem dX0_keepOnly_41 : decode cX0_keepOnly 41 = .ok (.aload_n 0, 1) := by decide +kernel
theorem dX0_keepOnly_42 : decode cX0_keepOnly 42 = .ok (.iload_n 3, 1) := by decide +kernel
theorem dX0_keepOnly_43 : decode cX0_keepOnly 43 = .ok (.iload 4, 2) := by decide +kernel
theorem dX0_keepOnly_45 : decode cX0_keepOnly 45 = .ok (.invokevirtual 82, 3) := by decide +kernel
theorem dX0_keepOnly_48 : decode cX0_keepOnly 48 = .ok (.invokevirtual 61, 3) := by decide +kernel
theorem dX0_keepOnly_51 : decode cX0_keepOnly 51 = .ok (.ifCond .ne 12, 3) := by decide +kernel
theorem dX0_keepOnly_54 : decode cX0_keepOnly 54 = .ok (.aload_n 0, 1) := by decide +kernel
theorem dX0_keepOnly_55 : decode cX0_keepOnly 55 = .ok (.iload_n 3, 1) := by decide +kernel
theorem dX0_keepOnly_56 : decode cX0_keepOnly 56 = .ok (.iload 4, 2) := by decide +kernel
theorem dX0_keepOnly_58 : decode cX0_keepOnly 58 = .ok (.bipush (-5), 2) := by decide +kernel
theorem dX0_keepOnly_60 : decode cX0_keepOnly 60 = .ok (.invokevirtual 89, 3) := by decide +kernel
theorem dX0_keepOnly_63 : decode cX0_keepOnly 63 = .ok (.iinc 4 1, 3) := by decide +kernel
theorem dX0_keepOnly_66 : decode cX0_keepOnly 66 = .ok (.goto (-36), 3) := by decide +kernel
theorem dX0_keepOnly_69 : decode cX0_keepOnly 69 = .ok (.iinc 3 1, 3) := by decide +kernel
theorem dX0_keepOnly_72 : decode cX0_keepOnly 72 = .ok (.goto (-51), 3) := by decide +kernel
theorem dX0_keepOnly_75 : decode cX0_keepOnly 75 = .ok (.iload_n 2, 1) := by decide +kernel
theorem dX0_keepOnly_76 : decode cX0_keepOnly 76 = .ok (.invokestatic 93, 3) := by decide +kernel
theorem dX0_keepOnly_79 : decode cX0_keepOnly 79 = .ok (.ireturn, 1) := by decide +kernel
theorem dX1_init_0 : decode cX1_init 0 = .ok (.aload_n 0, 1) := by decide +kernel
theorem dX1_init_1 : decode cX1_init 1 = .ok (.invokespecial 3, 3) := by decide +kernel
theorem dX1_init_4 : decode cX1_init 4 = .ok (.aload_n 0, 1) := by decide +kernel
theorem dX1_init_5 : decode cX1_init 5 = .ok (.bipush 24, 2) := by decide +kernel
theorem dX1_init_7 : decode cX1_init 7 = .ok (.newarray .int, 2) := by decide +kernel
theorem dX1_init_9 : decode cX1_init 9 = .ok (.putfield 9, 3) := by decide +kernel
theorem dX1_init_12 : decode cX1_init 12 = .ok (.aload_n 0, 1) := by decide +kernel
theorem dX1_init_13 : decode cX1_init 13 = .ok (.iconst 0, 1) := by decide +kernel
theorem dX1_init_14 : decode cX1_init 14 = .ok (.putfield 15, 3) := by decide +kernel
theorem dX1_init_17 : decode cX1_init 17 = .ok (.return_, 1) := by decide +kernel
theorem dX1_readFrom_0 : decode cX1_readFrom 0 = .ok (.aload_n 0, 1) := by decide +kernel
theorem dX1_readFrom_1 : decode cX1_readFrom 1 = .ok (.aload_n 1, 1) := by decide +kernel
theorem dX1_readFrom_2 : decode cX1_readFrom 2 = .ok (.invokevirtual 19, 3) := by decide +kernel
theorem dX1_readFrom_5 : decode cX1_readFrom 5 = .ok (.putfield 15, 3) := by decide +kernel
theorem dX1_readFrom_8 : decode cX1_readFrom 8 = .ok (.iconst 0, 1) := by decide +kernel
theorem dX1_readFrom_9 : decode cX1_readFrom 9 = .ok (.istore_n 2, 1) := by decide +kernel
theorem dX1_readFrom_10 : decode cX1_readFrom 10 = .ok (.iload_n 2, 1) := by decide +kernel
theorem dX1_readFrom_11 : decode cX1_readFrom 11 = .ok (.bipush 24, 2) := by decide +kernel
theorem dX1_readFrom_13 : decode cX1_readFrom 13 = .ok (.if_icmp .ge 21, 3) := by decide +kernel
theorem dX1_readFrom_16 : decode cX1_readFrom 16 = .ok (.aload_n 0, 1) := by decide +kernel
theorem dX1_readFrom_17 : decode cX1_readFrom 17 = .ok (.getfield 9, 3) := by decide +kernel
theorem dX1_readFrom_20 : decode cX1_readFrom 20 = .ok (.iload_n 2, 1) := by decide +kernel
theorem dX1_readFrom_21 : decode cX1_readFrom 21 = .ok (.aload_n 1, 1) := by decide +kernel
theorem dX1_readFrom_22 : decode cX1_readFrom 22 = .ok (.iload_n 2, 1) := by decide +kernel
theorem dX1_readFrom_23 : decode cX1_readFrom 23 = .ok (.iconst (-1), 1) := by decide +kernel
theorem dX1_readFrom_24 : decode cX1_readFrom 24 = .ok (.invokevirtual 25, 3) := by decide +kernel
theorem dX1_readFrom_27 : decode cX1_readFrom 27 = .ok (.iastore, 1) := by decide +kernel
theorem dX1_readFrom_28 : decode cX1_readFrom 28 = .ok (.iinc 2 1, 3) := by decide +kernel
theorem dX1_readFrom_31 : decode cX1_readFrom 31 = .ok (.goto (-21), 3) := by decide +kernel
theorem dX1_readFrom_34 : decode cX1_readFrom 34 = .ok (.return_, 1) := by decide +kernel
theorem dX1_spread_0 : decode cX1_spread 0 = .ok (.iload_n 1, 1) := by decide +kernel
theorem dX1_spread_1 : decode cX1_spread 1 = .ok (.iload_n 2, 1) := by decide +kernel
theorem dX1_spread_2 : decode cX1_spread 2 = .ok (.iconst (-1), 1) := by decide +kernel
theorem dX1_spread_3 : decode cX1_spread 3 = .ok (.ixor, 1) := by decide +kernel
theorem dX1_spread_4 : decode cX1_spread 4 = .ok (.iand, 1) := by decide +kernel
theorem dX1_spread_5 : decode cX1_spread 5 = .ok (.istore_n 3, 1) := by decide +kernel
theorem dX1_spread_6 : decode cX1_spread 6 = .ok (.iload_n 3, 1) := by decide +kernel
theorem dX1_spread_7 : decode cX1_spread 7 = .ok (.istore 4, 2) := by decide +kernel
theorem dX1_spread_9 : decode cX1_spread 9 = .ok (.iconst 0, 1) := by decide +kernel
theorem dX1_spread_10 : decode cX1_spread 10 = .ok (.istore 5, 2) := by decide +kernel
theorem dX1_spread_12 : decode cX1_spread 12 = .ok (.iload 5, 2) := by decide +kernel
theorem dX1_spread_14 : decode cX1_spread 14 = .ok (.bipush 24, 2) := by decide +kernel
theorem dX1_spread_16 : decode cX1_spread 16 = .ok (.if_icmp .ge 74, 3) := by decide +kernel
theorem dX1_spread_19 : decode cX1_spread 19 = .ok (.iload 4, 2) := by decide +kernel
theorem dX1_spread_21 : decode cX1_spread 21 = .ok (.ifCond .eq 69, 3) := by decide +kernel
theorem dX1_spread_24 : decode cX1_spread 24 = .ok (.iload 4, 2) := by decide +kernel
theorem dX1_spread_26 : decode cX1_spread 26 = .ok (.invokestatic 29, 3) := by decide +kernel
theorem dX1_spread_29 : decode cX1_spread 29 = .ok (.istore 6, 2) := by decide +kernel
theorem dX1_spread_31 : decode cX1_spread 31 = .ok (.iload 4, 2) := by decide +kernel
theorem dX1_spread_33 : decode cX1_spread 33 = .ok (.iload 6, 2) := by decide +kernel
theorem dX1_spread_35 : decode cX1_spread 35 = .ok (.invokestatic 33, 3) := by decide +kernel
theorem dX1_spread_38 : decode cX1_spread 38 = .ok (.iconst (-1), 1) := by decide +kernel
theorem dX1_spread_39 : decode cX1_spread 39 = .ok (.ixor, 1) := by decide +kernel
theorem dX1_spread_40 : decode cX1_spread 40 = .ok (.iand, 1) := by decide +kernel
theorem dX1_spread_41 : decode cX1_spread 41 = .ok (.istore 4, 2) := by decide +kernel
theorem dX1_spread_43 : decode cX1_spread 43 = .ok (.iload 6, 2) := by decide +kernel
theorem dX1_spread_45 : decode cX1_spread 45 = .ok (.invokestatic 33, 3) := by decide +kernel
theorem dX1_spread_48 : decode cX1_spread 48 = .ok (.ifCond .ne 7, 3) := by decide +kernel
theorem dX1_spread_51 : decode cX1_spread 51 = .ok (.iconst 0, 1) := by decide +kernel
theorem dX1_spread_52 : decode cX1_spread 52 = .ok (.goto 18, 3) := by decide +kernel
theorem dX1_spread_55 : decode cX1_spread 55 = .ok (.aload_n 0, 1) := by decide +kernel
theorem dX1_spread_56 : decode cX1_spread 56 = .ok (.getfield 9, 3) := by decide +kernel
theorem dX1_spread_59 : decode cX1_spread 59 = .ok (.iload 6, 2) := by decide +kernel
theorem dX1_spread_61 : decode cX1_spread 61 = .ok (.iaload, 1) := by decide +kernel
theorem dX1_spread_62 : decode cX1_spread 62 = .ok (.iload_n 3, 1) := by decide +kernel
theorem dX1_spread_63 : decode cX1_spread 63 = .ok (.iconst (-1), 1) := by decide +kernel
theorem dX1_spread_64 : decode cX1_spread 64 = .ok (.ixor, 1) := by decide +kernel
theorem dX1_spread_65 : decode cX1_spread 65 = .ok (.iand, 1) := by decide +kernel
theorem dX1_spread_66 : decode cX1_spread 66 = .ok (.iload_n 2, 1) := by decide +kernel
theorem dX1_spread_67 : decode cX1_spread 67 = .ok (.iconst (-1), 1) := by decide +kernel
theorem dX1_spread_68 : decode cX1_spread 68 = .ok (.ixor, 1) := by decide +kernel
theorem dX1_spread_69 : decode cX1_spread 69 = .ok (.iand, 1) := by decide +kernel
theorem dX1_spread_70 : decode cX1_spread 70 = .ok (.istore 7, 2) := by decide +kernel
theorem dX1_spread_72 : decode cX1_spread 72 = .ok (.iload_n 3, 1) := by decide +kernel
theorem dX1_spread_73 : decode cX1_spread 73 = .ok (.iload 7, 2) := by decide +kernel
theorem dX1_spread_75 : decode cX1_spread 75 = .ok (.ior, 1) := by decide +kernel
theorem dX1_spread_76 : decode cX1_spread 76 = .ok (.istore_n 3, 1) := by decide +kernel
theorem dX1_spread_77 : decode cX1_spread 77 = .ok (.iload 4, 2) := by decide +kernel
theorem dX1_spread_79 : decode cX1_spread 79 = .ok (.iload 7, 2) := by decide +kernel
theorem dX1_spread_81 : decode cX1_spread 81 = .ok (.ior, 1) := by decide +kernel
theorem dX1_spread_82 : decode cX1_spread 82 = .ok (.istore 4, 2) := by decide +kernel
theorem dX1_spread_84 : decode cX1_spread 84 = .ok (.iinc 5 1, 3) := by decide +kernel
theorem dX1_spread_87 : decode cX1_spread 87 = .ok (.goto (-75), 3) := by decide +kernel
theorem dX1_spread_90 : decode cX1_spread 90 = .ok (.iload_n 3, 1) := by decide +kernel
theorem dX1_spread_91 : decode cX1_spread 91 = .ok (.ireturn, 1) := by decide +kernel
theorem dX1_reached_0 : decode cX1_reached 0 = .ok (.aload_n 0, 1) := by decide +kernel
theorem dX1_reached_1 : decode cX1_reached 1 = .ok (.aload_n 0, 1) := by decide +kernel
theorem dX1_reached_2 : decode cX1_reached 2 = .ok (.getfield 15, 3) := by decide +kernel
theorem dX1_reached_5 : decode cX1_reached 5 = .ok (.iconst 0, 1) := by decide +kernel
theorem dX1_reached_6 : decode cX1_reached 6 = .ok (.invokevirtual 36, 3) := by decide +kernel
theorem dX1_reached_9 : decode cX1_reached 9 = .ok (.ireturn, 1) := by decide +kernel
theorem dX1_keptBy_0 : decode cX1_keptBy 0 = .ok (.aload_n 0, 1) := by decide +kernel
theorem dX1_keptBy_1 : decode cX1_keptBy 1 = .ok (.invokevirtual 39, 3) := by decide +kernel
theorem dX1_keptBy_4 : decode cX1_keptBy 4 = .ok (.istore_n 2, 1) := by decide +kernel
theorem dX1_keptBy_5 : decode cX1_keptBy 5 = .ok (.iload_n 2, 1) := by decide +kernel
theorem dX1_keptBy_6 : decode cX1_keptBy 6 = .ok (.iload_n 1, 1) := by decide +kernel
theorem dX1_keptBy_7 : decode cX1_keptBy 7 = .ok (.invokestatic 42, 3) := by decide +kernel
theorem dX1_keptBy_10 : decode cX1_keptBy 10 = .ok (.ifCond .eq 22, 3) := by decide +kernel
theorem dX1_keptBy_13 : decode cX1_keptBy 13 = .ok (.iload_n 2, 1) := by decide +kernel
theorem dX1_keptBy_14 : decode cX1_keptBy 14 = .ok (.aload_n 0, 1) := by decide +kernel
theorem dX1_keptBy_15 : decode cX1_keptBy 15 = .ok (.aload_n 0, 1) := by decide +kernel
theorem dX1_keptBy_16 : decode cX1_keptBy 16 = .ok (.getfield 15, 3) := by decide +kernel
theorem dX1_keptBy_19 : decode cX1_keptBy 19 = .ok (.iload_n 1, 1) := by decide +kernel
theorem dX1_keptBy_20 : decode cX1_keptBy 20 = .ok (.invokestatic 33, 3) := by decide +kernel
theorem dX1_keptBy_23 : decode cX1_keptBy 23 = .ok (.invokevirtual 36, 3) := by decide +kernel
theorem dX1_keptBy_26 : decode cX1_keptBy 26 = .ok (.iconst (-1), 1) := by decide +kernel
theorem dX1_keptBy_27 : decode cX1_keptBy 27 = .ok (.ixor, 1) := by decide +kernel
theorem dX1_keptBy_28 : decode cX1_keptBy 28 = .ok (.iand, 1) := by decide +kernel
theorem dX1_keptBy_29 : decode cX1_keptBy 29 = .ok (.goto 4, 3) := by decide +kernel
theorem dX1_keptBy_32 : decode cX1_keptBy 32 = .ok (.iconst 0, 1) := by decide +kernel
theorem dX1_keptBy_33 : decode cX1_keptBy 33 = .ok (.ireturn, 1) := by decide +kernel
theorem dX1_reachedWithout_0 : decode cX1_reachedWithout 0 = .ok (.iload_n 2, 1) := by decide +kernel
theorem dX1_reachedWithout_1 : decode cX1_reachedWithout 1 = .ok (.invokestatic 33, 3) := by decide +kernel
theorem dX1_reachedWithout_4 : decode cX1_reachedWithout 4 = .ok (.ifCond .ne 13, 3) := by decide +kernel
theorem dX1_reachedWithout_7 : decode cX1_reachedWithout 7 = .ok (.aload_n 0, 1) := by decide +kernel
theorem dX1_reachedWithout_8 : decode cX1_reachedWithout 8 = .ok (.aload_n 0, 1) := by decide +kernel
theorem dX1_reachedWithout_9 : decode cX1_reachedWithout 9 = .ok (.getfield 15, 3) := by decide +kernel
theorem dX1_reachedWithout_12 : decode cX1_reachedWithout 12 = .ok (.iconst 0, 1) := by decide +kernel
theorem dX1_reachedWithout_13 : decode cX1_reachedWithout 13 = .ok (.invokevirtual 36, 3) := by decide +kernel
theorem dX1_reachedWithout_16 : decode cX1_reachedWithout 16 = .ok (.ireturn, 1) := by decide +kernel
theorem dX1_reachedWithout_17 : decode cX1_reachedWithout 17 = .ok (.aload_n 0, 1) := by decide +kernel
theorem dX1_reachedWithout_18 : decode cX1_reachedWithout 18 = .ok (.getfield 9, 3) := by decide +kernel
theorem dX1_reachedWithout_21 : decode cX1_reachedWithout 21 = .ok (.iload_n 2, 1) := by decide +kernel
theorem dX1_reachedWithout_22 : decode cX1_reachedWithout 22 = .ok (.iaload, 1) := by decide +kernel
theorem dX1_reachedWithout_23 : decode cX1_reachedWithout 23 = .ok (.istore 4, 2) := by decide +kernel
theorem dX1_reachedWithout_25 : decode cX1_reachedWithout 25 = .ok (.aload_n 0, 1) := by decide +kernel
theorem dX1_reachedWithout_26 : decode cX1_reachedWithout 26 = .ok (.getfield 9, 3) := by decide +kernel
theorem dX1_reachedWithout_29 : decode cX1_reachedWithout 29 = .ok (.iload_n 2, 1) := by decide +kernel
theorem dX1_reachedWithout_30 : decode cX1_reachedWithout 30 = .ok (.aload_n 1, 1) := by decide +kernel
theorem dX1_reachedWithout_31 : decode cX1_reachedWithout 31 = .ok (.iload_n 2, 1) := by decide +kernel
theorem dX1_reachedWithout_32 : decode cX1_reachedWithout 32 = .ok (.iload_n 3, 1) := by decide +kernel
theorem dX1_reachedWithout_33 : decode cX1_reachedWithout 33 = .ok (.invokevirtual 25, 3) := by decide +kernel
theorem dX1_reachedWithout_36 : decode cX1_reachedWithout 36 = .ok (.iastore, 1) := by decide +kernel
theorem dX1_reachedWithout_37 : decode cX1_reachedWithout 37 = .ok (.aload_n 0, 1) := by decide +kernel
theorem dX1_reachedWithout_38 : decode cX1_reachedWithout 38 = .ok (.aload_n 0, 1) := by decide +kernel
theorem dX1_reachedWithout_39 : decode cX1_reachedWithout 39 = .ok (.getfield 15, 3) := by decide +kernel
theorem dX1_reachedWithout_42 : decode cX1_reachedWithout 42 = .ok (.iconst 0, 1) := by decide +kernel
theorem dX1_reachedWithout_43 : decode cX1_reachedWithout 43 = .ok (.invokevirtual 36, 3) := by decide +kernel
theorem dX1_reachedWithout_46 : decode cX1_reachedWithout 46 = .ok (.istore 5, 2) := by decide +kernel
theorem dX1_reachedWithout_48 : decode cX1_reachedWithout 48 = .ok (.aload_n 0, 1) := by decide +kernel
theorem dX1_reachedWithout_49 : decode cX1_reachedWithout 49 = .ok (.getfield 9, 3) := by decide +kernel
theorem dX1_reachedWithout_52 : decode cX1_reachedWithout 52 = .ok (.iload_n 2, 1) := by decide +kernel
theorem dX1_reachedWithout_53 : decode cX1_reachedWithout 53 = .ok (.iload 4, 2) := by decide +kernel
theorem dX1_reachedWithout_55 : decode cX1_reachedWithout 55 = .ok (.iastore, 1) := by decide +kernel
theorem dX1_reachedWithout_56 : decode cX1_reachedWithout 56 = .ok (.iload 5, 2) := by decide +kernel
theorem dX1_reachedWithout_58 : decode cX1_reachedWithout 58 = .ok (.ireturn, 1) := by decide +kernel
theorem dX1_cutOf_0 : decode cX1_cutOf 0 = .ok (.aload_n 0, 1) := by decide +kernel
theorem dX1_cutOf_1 : decode cX1_cutOf 1 = .ok (.invokevirtual 39, 3) := by decide +kernel
theorem dX1_cutOf_4 : decode cX1_cutOf 4 = .ok (.istore_n 3, 1) := by decide +kernel
theorem dX1_cutOf_5 : decode cX1_cutOf 5 = .ok (.iload_n 3, 1) := by decide +kernel
theorem dX1_cutOf_6 : decode cX1_cutOf 6 = .ok (.iload_n 2, 1) := by decide +kernel
theorem dX1_cutOf_7 : decode cX1_cutOf 7 = .ok (.invokestatic 42, 3) := by decide +kernel
theorem dX1_cutOf_10 : decode cX1_cutOf 10 = .ok (.ifCond .ne 6, 3) := by decide +kernel
theorem dX1_cutOf_13 : decode cX1_cutOf 13 = .ok (.bipush (-5), 2) := by decide +kernel
theorem dX1_cutOf_15 : decode cX1_cutOf 15 = .ok (.ireturn, 1) := by decide +kernel
theorem dX1_cutOf_16 : decode cX1_cutOf 16 = .ok (.iconst 0, 1) := by decide +kernel
theorem dX1_cutOf_17 : decode cX1_cutOf 17 = .ok (.istore 4, 2) := by decide +kernel
theorem dX1_cutOf_19 : decode cX1_cutOf 19 = .ok (.iload 4, 2) := by decide +kernel
theorem dX1_cutOf_21 : decode cX1_cutOf 21 = .ok (.bipush 24, 2) := by decide +kernel
theorem dX1_cutOf_23 : decode cX1_cutOf 23 = .ok (.if_icmp .ge 63, 3) := by decide +kernel
theorem dX1_cutOf_26 : decode cX1_cutOf 26 = .ok (.iconst 0, 1) := by decide +kernel
theorem dX1_cutOf_27 : decode cX1_cutOf 27 = .ok (.istore 5, 2) := by decide +kernel
theorem dX1_cutOf_29 : decode cX1_cutOf 29 = .ok (.iload 5, 2) := by decide +kernel
theorem dX1_cutOf_31 : decode cX1_cutOf 31 = .ok (.aload_n 1, 1) := by decide +kernel
theorem dX1_cutOf_32 : decode cX1_cutOf 32 = .ok (.iload 4, 2) := by decide +kernel
theorem dX1_cutOf_34 : decode cX1_cutOf 34 = .ok (.invokevirtual 46, 3) := by decide +kernel
theorem dX1_cutOf_37 : decode cX1_cutOf 37 = .ok (.if_icmp .ge 43, 3) := by decide +kernel
theorem dX1_cutOf_40 : decode cX1_cutOf 40 = .ok (.iload_n 3, 1) := by decide +kernel
theorem dX1_cutOf_41 : decode cX1_cutOf 41 = .ok (.iload 4, 2) := by decide +kernel
theorem dX1_cutOf_43 : decode cX1_cutOf 43 = .ok (.invokestatic 42, 3) := by decide +kernel
theorem dX1_cutOf_46 : decode cX1_cutOf 46 = .ok (.ifCond .eq 28, 3) := by decide +kernel
theorem dX1_cutOf_49 : decode cX1_cutOf 49 = .ok (.aload_n 0, 1) := by decide +kernel
theorem dX1_cutOf_50 : decode cX1_cutOf 50 = .ok (.aload_n 1, 1) := by decide +kernel
theorem dX1_cutOf_51 : decode cX1_cutOf 51 = .ok (.iload 4, 2) := by decide +kernel
theorem dX1_cutOf_53 : decode cX1_cutOf 53 = .ok (.iload 5, 2) := by decide +kernel
theorem dX1_cutOf_55 : decode cX1_cutOf 55 = .ok (.invokevirtual 49, 3) := by decide +kernel
theorem dX1_cutOf_58 : decode cX1_cutOf 58 = .ok (.iload_n 2, 1) := by decide +kernel
theorem dX1_cutOf_59 : decode cX1_cutOf 59 = .ok (.invokestatic 42, 3) := by decide +kernel
theorem dX1_cutOf_62 : decode cX1_cutOf 62 = .ok (.ifCond .ne 12, 3) := by decide +kernel
theorem dX1_cutOf_65 : decode cX1_cutOf 65 = .ok (.bipush 10, 2) := by decide +kernel
theorem dX1_cutOf_67 : decode cX1_cutOf 67 = .ok (.iload 4, 2) := by decide +kernel
theorem dX1_cutOf_69 : decode cX1_cutOf 69 = .ok (.imul, 1) := by decide +kernel
theorem dX1_cutOf_70 : decode cX1_cutOf 70 = .ok (.iload 5, 2) := by decide +kernel
theorem dX1_cutOf_72 : decode cX1_cutOf 72 = .ok (.iadd, 1) := by decide +kernel
theorem dX1_cutOf_73 : decode cX1_cutOf 73 = .ok (.ireturn, 1) := by decide +kernel
theorem dX1_cutOf_74 : decode cX1_cutOf 74 = .ok (.iinc 5 1, 3) := by decide +kernel
theorem dX1_cutOf_77 : decode cX1_cutOf 77 = .ok (.goto (-48), 3) := by decide +kernel
theorem dX1_cutOf_80 : decode cX1_cutOf 80 = .ok (.iinc 4 1, 3) := by decide +kernel
theorem dX1_cutOf_83 : decode cX1_cutOf 83 = .ok (.goto (-64), 3) := by decide +kernel
theorem dX1_cutOf_86 : decode cX1_cutOf 86 = .ok (.bipush (-5), 2) := by decide +kernel
theorem dX1_cutOf_88 : decode cX1_cutOf 88 = .ok (.ireturn, 1) := by decide +kernel
theorem dX1_farOf_0 : decode cX1_farOf 0 = .ok (.aload_n 0, 1) := by decide +kernel
theorem dX1_farOf_1 : decode cX1_farOf 1 = .ok (.getfield 15, 3) := by decide +kernel
theorem dX1_farOf_4 : decode cX1_farOf 4 = .ok (.istore_n 2, 1) := by decide +kernel
theorem dX1_farOf_5 : decode cX1_farOf 5 = .ok (.iconst 0, 1) := by decide +kernel
theorem dX1_farOf_6 : decode cX1_farOf 6 = .ok (.istore_n 3, 1) := by decide +kernel
theorem dX1_farOf_7 : decode cX1_farOf 7 = .ok (.iload_n 3, 1) := by decide +kernel
theorem dX1_farOf_8 : decode cX1_farOf 8 = .ok (.bipush 24, 2) := by decide +kernel
theorem dX1_farOf_10 : decode cX1_farOf 10 = .ok (.if_icmp .ge 62, 3) := by decide +kernel
theorem dX1_farOf_13 : decode cX1_farOf 13 = .ok (.iload_n 2, 1) := by decide +kernel
theorem dX1_farOf_14 : decode cX1_farOf 14 = .ok (.iload_n 1, 1) := by decide +kernel
theorem dX1_farOf_15 : decode cX1_farOf 15 = .ok (.invokestatic 42, 3) := by decide +kernel
theorem dX1_farOf_18 : decode cX1_farOf 18 = .ok (.ifCond .eq 5, 3) := by decide +kernel
theorem dX1_farOf_21 : decode cX1_farOf 21 = .ok (.iload_n 3, 1) := by decide +kernel
theorem dX1_farOf_22 : decode cX1_farOf 22 = .ok (.ireturn, 1) := by decide +kernel
theorem dX1_farOf_23 : decode cX1_farOf 23 = .ok (.iload_n 2, 1) := by decide +kernel
theorem dX1_farOf_24 : decode cX1_farOf 24 = .ok (.istore 4, 2) := by decide +kernel
theorem dX1_farOf_26 : decode cX1_farOf 26 = .ok (.iconst 0, 1) := by decide +kernel
theorem dX1_farOf_27 : decode cX1_farOf 27 = .ok (.istore 5, 2) := by decide +kernel
theorem dX1_farOf_29 : decode cX1_farOf 29 = .ok (.iload 5, 2) := by decide +kernel
theorem dX1_farOf_31 : decode cX1_farOf 31 = .ok (.bipush 24, 2) := by decide +kernel
theorem dX1_farOf_33 : decode cX1_farOf 33 = .ok (.if_icmp .ge 33, 3) := by decide +kernel
theorem dX1_farOf_36 : decode cX1_farOf 36 = .ok (.iload_n 2, 1) := by decide +kernel
theorem dX1_farOf_37 : decode cX1_farOf 37 = .ok (.iload 4, 2) := by decide +kernel
theorem dX1_farOf_39 : decode cX1_farOf 39 = .ok (.iload 5, 2) := by decide +kernel
theorem dX1_farOf_41 : decode cX1_farOf 41 = .ok (.invokestatic 42, 3) := by decide +kernel
theorem dX1_farOf_44 : decode cX1_farOf 44 = .ok (.ifCond .eq 13, 3) := by decide +kernel
theorem dX1_farOf_47 : decode cX1_farOf 47 = .ok (.aload_n 0, 1) := by decide +kernel
theorem dX1_farOf_48 : decode cX1_farOf 48 = .ok (.getfield 9, 3) := by decide +kernel
theorem dX1_farOf_51 : decode cX1_farOf 51 = .ok (.iload 5, 2) := by decide +kernel
theorem dX1_farOf_53 : decode cX1_farOf 53 = .ok (.iaload, 1) := by decide +kernel
theorem dX1_farOf_54 : decode cX1_farOf 54 = .ok (.goto 4, 3) := by decide +kernel
theorem dX1_farOf_57 : decode cX1_farOf 57 = .ok (.iconst 0, 1) := by decide +kernel
theorem dX1_farOf_58 : decode cX1_farOf 58 = .ok (.ior, 1) := by decide +kernel
theorem dX1_farOf_59 : decode cX1_farOf 59 = .ok (.istore_n 2, 1) := by decide +kernel
theorem dX1_farOf_60 : decode cX1_farOf 60 = .ok (.iinc 5 1, 3) := by decide +kernel
theorem dX1_farOf_63 : decode cX1_farOf 63 = .ok (.goto (-34), 3) := by decide +kernel
theorem dX1_farOf_66 : decode cX1_farOf 66 = .ok (.iinc 3 1, 3) := by decide +kernel
theorem dX1_farOf_69 : decode cX1_farOf 69 = .ok (.goto (-62), 3) := by decide +kernel
theorem dX1_farOf_72 : decode cX1_farOf 72 = .ok (.bipush (-5), 2) := by decide +kernel
theorem dX1_farOf_74 : decode cX1_farOf 74 = .ok (.ireturn, 1) := by decide +kernel
theorem dX2_init_0 : decode cX2_init 0 = .ok (.aload_n 0, 1) := by decide +kernel
theorem dX2_init_1 : decode cX2_init 1 = .ok (.invokespecial 3, 3) := by decide +kernel
theorem dX2_init_4 : decode cX2_init 4 = .ok (.aload_n 0, 1) := by decide +kernel
theorem dX2_init_5 : decode cX2_init 5 = .ok (.iconst 0, 1) := by decide +kernel
theorem dX2_init_6 : decode cX2_init 6 = .ok (.putfield 9, 3) := by decide +kernel
theorem dX2_init_9 : decode cX2_init 9 = .ok (.aload_n 0, 1) := by decide +kernel
theorem dX2_init_10 : decode cX2_init 10 = .ok (.iconst 0, 1) := by decide +kernel
theorem dX2_init_11 : decode cX2_init 11 = .ok (.putfield 15, 3) := by decide +kernel
theorem dX2_init_14 : decode cX2_init 14 = .ok (.aload_n 0, 1) := by decide +kernel
theorem dX2_init_15 : decode cX2_init 15 = .ok (.iconst 0, 1) := by decide +kernel
theorem dX2_init_16 : decode cX2_init 16 = .ok (.putfield 18, 3) := by decide +kernel
theorem dX2_init_19 : decode cX2_init 19 = .ok (.aload_n 0, 1) := by decide +kernel
theorem dX2_init_20 : decode cX2_init 20 = .ok (.iconst 0, 1) := by decide +kernel
theorem dX2_init_21 : decode cX2_init 21 = .ok (.putfield 22, 3) := by decide +kernel
theorem dX2_init_24 : decode cX2_init 24 = .ok (.aload_n 0, 1) := by decide +kernel
theorem dX2_init_25 : decode cX2_init 25 = .ok (.bipush (-5), 2) := by decide +kernel
theorem dX2_init_27 : decode cX2_init 27 = .ok (.putfield 25, 3) := by decide +kernel
theorem dX2_init_30 : decode cX2_init 30 = .ok (.aload_n 0, 1) := by decide +kernel
theorem dX2_init_31 : decode cX2_init 31 = .ok (.iconst 0, 1) := by decide +kernel
theorem dX2_init_32 : decode cX2_init 32 = .ok (.putfield 28, 3) := by decide +kernel
theorem dX2_init_35 : decode cX2_init 35 = .ok (.aload_n 0, 1) := by decide +kernel
theorem dX2_init_36 : decode cX2_init 36 = .ok (.iconst 0, 1) := by decide +kernel
theorem dX2_init_37 : decode cX2_init 37 = .ok (.putfield 31, 3) := by decide +kernel
theorem dX2_init_40 : decode cX2_init 40 = .ok (.aload_n 0, 1) := by decide +kernel
theorem dX2_init_41 : decode cX2_init 41 = .ok (.iconst 0, 1) := by decide +kernel
theorem dX2_init_42 : decode cX2_init 42 = .ok (.putfield 34, 3) := by decide +kernel
theorem dX2_init_45 : decode cX2_init 45 = .ok (.aload_n 0, 1) := by decide +kernel
theorem dX2_init_46 : decode cX2_init 46 = .ok (.iconst 0, 1) := by decide +kernel
theorem dX2_init_47 : decode cX2_init 47 = .ok (.putfield 37, 3) := by decide +kernel
theorem dX2_init_50 : decode cX2_init 50 = .ok (.aload_n 0, 1) := by decide +kernel
theorem dX2_init_51 : decode cX2_init 51 = .ok (.iconst 0, 1) := by decide +kernel
theorem dX2_init_52 : decode cX2_init 52 = .ok (.putfield 40, 3) := by decide +kernel
theorem dX2_init_55 : decode cX2_init 55 = .ok (.aload_n 0, 1) := by decide +kernel
theorem dX2_init_56 : decode cX2_init 56 = .ok (.iconst 0, 1) := by decide +kernel
theorem dX2_init_57 : decode cX2_init 57 = .ok (.putfield 43, 3) := by decide +kernel
theorem dX2_init_60 : decode cX2_init 60 = .ok (.aload_n 0, 1) := by decide +kernel
theorem dX2_init_61 : decode cX2_init 61 = .ok (.iconst 0, 1) := by decide +kernel
theorem dX2_init_62 : decode cX2_init 62 = .ok (.putfield 46, 3) := by decide +kernel
theorem dX2_init_65 : decode cX2_init 65 = .ok (.aload_n 0, 1) := by decide +kernel
theorem dX2_init_66 : decode cX2_init 66 = .ok (.iconst 0, 1) := by decide +kernel
theorem dX2_init_67 : decode cX2_init 67 = .ok (.putfield 49, 3) := by decide +kernel
theorem dX2_init_70 : decode cX2_init 70 = .ok (.aload_n 0, 1) := by decide +kernel
theorem dX2_init_71 : decode cX2_init 71 = .ok (.bipush 24, 2) := by decide +kernel
theorem dX2_init_73 : decode cX2_init 73 = .ok (.newarray .int, 2) := by decide +kernel
theorem dX2_init_75 : decode cX2_init 75 = .ok (.putfield 52, 3) := by decide +kernel
theorem dX2_init_78 : decode cX2_init 78 = .ok (.aload_n 0, 1) := by decide +kernel
theorem dX2_init_79 : decode cX2_init 79 = .ok (.bipush 24, 2) := by decide +kernel
theorem dX2_init_81 : decode cX2_init 81 = .ok (.newarray .int, 2) := by decide +kernel
theorem dX2_init_83 : decode cX2_init 83 = .ok (.putfield 56, 3) := by decide +kernel
theorem dX2_init_86 : decode cX2_init 86 = .ok (.return_, 1) := by decide +kernel
theorem dX2_copyFrom_0 : decode cX2_copyFrom 0 = .ok (.aload_n 0, 1) := by decide +kernel
theorem dX2_copyFrom_1 : decode cX2_copyFrom 1 = .ok (.aload_n 1, 1) := by decide +kernel
theorem dX2_copyFrom_2 : decode cX2_copyFrom 2 = .ok (.getfield 9, 3) := by decide +kernel
theorem dX2_copyFrom_5 : decode cX2_copyFrom 5 = .ok (.putfield 9, 3) := by decide +kernel
theorem dX2_copyFrom_8 : decode cX2_copyFrom 8 = .ok (.aload_n 0, 1) := by decide +kernel
theorem dX2_copyFrom_9 : decode cX2_copyFrom 9 = .ok (.aload_n 1, 1) := by decide +kernel
theorem dX2_copyFrom_10 : decode cX2_copyFrom 10 = .ok (.getfield 15, 3) := by decide +kernel
theorem dX2_copyFrom_13 : decode cX2_copyFrom 13 = .ok (.putfield 15, 3) := by decide +kernel
theorem dX2_copyFrom_16 : decode cX2_copyFrom 16 = .ok (.aload_n 0, 1) := by decide +kernel
theorem dX2_copyFrom_17 : decode cX2_copyFrom 17 = .ok (.aload_n 1, 1) := by decide +kernel
theorem dX2_copyFrom_18 : decode cX2_copyFrom 18 = .ok (.getfield 18, 3) := by decide +kernel
theorem dX2_copyFrom_21 : decode cX2_copyFrom 21 = .ok (.putfield 18, 3) := by decide +kernel
theorem dX2_copyFrom_24 : decode cX2_copyFrom 24 = .ok (.aload_n 0, 1) := by decide +kernel
theorem dX2_copyFrom_25 : decode cX2_copyFrom 25 = .ok (.aload_n 1, 1) := by decide +kernel
theorem dX2_copyFrom_26 : decode cX2_copyFrom 26 = .ok (.getfield 22, 3) := by decide +kernel
theorem dX2_copyFrom_29 : decode cX2_copyFrom 29 = .ok (.putfield 22, 3) := by decide +kernel
theorem dX2_copyFrom_32 : decode cX2_copyFrom 32 = .ok (.aload_n 0, 1) := by decide +kernel
theorem dX2_copyFrom_33 : decode cX2_copyFrom 33 = .ok (.aload_n 1, 1) := by decide +kernel
theorem dX2_copyFrom_34 : decode cX2_copyFrom 34 = .ok (.getfield 25, 3) := by decide +kernel
theorem dX2_copyFrom_37 : decode cX2_copyFrom 37 = .ok (.putfield 25, 3) := by decide +kernel
theorem dX2_copyFrom_40 : decode cX2_copyFrom 40 = .ok (.aload_n 0, 1) := by decide +kernel
theorem dX2_copyFrom_41 : decode cX2_copyFrom 41 = .ok (.aload_n 1, 1) := by decide +kernel
theorem dX2_copyFrom_42 : decode cX2_copyFrom 42 = .ok (.getfield 28, 3) := by decide +kernel
theorem dX2_copyFrom_45 : decode cX2_copyFrom 45 = .ok (.putfield 28, 3) := by decide +kernel
theorem dX2_copyFrom_48 : decode cX2_copyFrom 48 = .ok (.aload_n 0, 1) := by decide +kernel
theorem dX2_copyFrom_49 : decode cX2_copyFrom 49 = .ok (.aload_n 1, 1) := by decide +kernel
theorem dX2_copyFrom_50 : decode cX2_copyFrom 50 = .ok (.getfield 31, 3) := by decide +kernel
theorem dX2_copyFrom_53 : decode cX2_copyFrom 53 = .ok (.putfield 31, 3) := by decide +kernel
theorem dX2_copyFrom_56 : decode cX2_copyFrom 56 = .ok (.aload_n 0, 1) := by decide +kernel
theorem dX2_copyFrom_57 : decode cX2_copyFrom 57 = .ok (.aload_n 1, 1) := by decide +kernel
theorem dX2_copyFrom_58 : decode cX2_copyFrom 58 = .ok (.getfield 34, 3) := by decide +kernel
theorem dX2_copyFrom_61 : decode cX2_copyFrom 61 = .ok (.putfield 34, 3) := by decide +kernel
theorem dX2_copyFrom_64 : decode cX2_copyFrom 64 = .ok (.aload_n 0, 1) := by decide +kernel
theorem dX2_copyFrom_65 : decode cX2_copyFrom 65 = .ok (.aload_n 1, 1) := by decide +kernel
theorem dX2_copyFrom_66 : decode cX2_copyFrom 66 = .ok (.getfield 37, 3) := by decide +kernel
theorem dX2_copyFrom_69 : decode cX2_copyFrom 69 = .ok (.putfield 37, 3) := by decide +kernel
theorem dX2_copyFrom_72 : decode cX2_copyFrom 72 = .ok (.aload_n 0, 1) := by decide +kernel
theorem dX2_copyFrom_73 : decode cX2_copyFrom 73 = .ok (.aload_n 1, 1) := by decide +kernel
theorem dX2_copyFrom_74 : decode cX2_copyFrom 74 = .ok (.getfield 40, 3) := by decide +kernel
theorem dX2_copyFrom_77 : decode cX2_copyFrom 77 = .ok (.putfield 40, 3) := by decide +kernel
theorem dX2_copyFrom_80 : decode cX2_copyFrom 80 = .ok (.aload_n 0, 1) := by decide +kernel
theorem dX2_copyFrom_81 : decode cX2_copyFrom 81 = .ok (.aload_n 1, 1) := by decide +kernel
theorem dX2_copyFrom_82 : decode cX2_copyFrom 82 = .ok (.getfield 43, 3) := by decide +kernel
theorem dX2_copyFrom_85 : decode cX2_copyFrom 85 = .ok (.putfield 43, 3) := by decide +kernel
theorem dX2_copyFrom_88 : decode cX2_copyFrom 88 = .ok (.aload_n 0, 1) := by decide +kernel
theorem dX2_copyFrom_89 : decode cX2_copyFrom 89 = .ok (.aload_n 1, 1) := by decide +kernel
theorem dX2_copyFrom_90 : decode cX2_copyFrom 90 = .ok (.getfield 46, 3) := by decide +kernel
theorem dX2_copyFrom_93 : decode cX2_copyFrom 93 = .ok (.putfield 46, 3) := by decide +kernel
theorem dX2_copyFrom_96 : decode cX2_copyFrom 96 = .ok (.aload_n 0, 1) := by decide +kernel
theorem dX2_copyFrom_97 : decode cX2_copyFrom 97 = .ok (.aload_n 1, 1) := by decide +kernel
theorem dX2_copyFrom_98 : decode cX2_copyFrom 98 = .ok (.getfield 49, 3) := by decide +kernel
theorem dX2_copyFrom_101 : decode cX2_copyFrom 101 = .ok (.putfield 49, 3) := by decide +kernel
theorem dX2_copyFrom_104 : decode cX2_copyFrom 104 = .ok (.aload_n 1, 1) := by decide +kernel
theorem dX2_copyFrom_105 : decode cX2_copyFrom 105 = .ok (.getfield 52, 3) := by decide +kernel
theorem dX2_copyFrom_108 : decode cX2_copyFrom 108 = .ok (.iconst 0, 1) := by decide +kernel
theorem dX2_copyFrom_109 : decode cX2_copyFrom 109 = .ok (.aload_n 0, 1) := by decide +kernel
theorem dX2_copyFrom_110 : decode cX2_copyFrom 110 = .ok (.getfield 52, 3) := by decide +kernel
theorem dX2_copyFrom_113 : decode cX2_copyFrom 113 = .ok (.iconst 0, 1) := by decide +kernel
theorem dX2_copyFrom_114 : decode cX2_copyFrom 114 = .ok (.bipush 24, 2) := by decide +kernel
theorem dX2_copyFrom_116 : decode cX2_copyFrom 116 = .ok (.invokestatic 59, 3) := by decide +kernel
theorem dX2_copyFrom_119 : decode cX2_copyFrom 119 = .ok (.aload_n 1, 1) := by decide +kernel
theorem dX2_copyFrom_120 : decode cX2_copyFrom 120 = .ok (.getfield 56, 3) := by decide +kernel
theorem dX2_copyFrom_123 : decode cX2_copyFrom 123 = .ok (.iconst 0, 1) := by decide +kernel
theorem dX2_copyFrom_124 : decode cX2_copyFrom 124 = .ok (.aload_n 0, 1) := by decide +kernel
theorem dX2_copyFrom_125 : decode cX2_copyFrom 125 = .ok (.getfield 56, 3) := by decide +kernel
theorem dX2_copyFrom_128 : decode cX2_copyFrom 128 = .ok (.iconst 0, 1) := by decide +kernel
theorem dX2_copyFrom_129 : decode cX2_copyFrom 129 = .ok (.bipush 24, 2) := by decide +kernel
theorem dX2_copyFrom_131 : decode cX2_copyFrom 131 = .ok (.invokestatic 59, 3) := by decide +kernel
theorem dX2_copyFrom_134 : decode cX2_copyFrom 134 = .ok (.return_, 1) := by decide +kernel
theorem dX2_start_0 : decode cX2_start 0 = .ok (.aload_n 0, 1) := by decide +kernel
theorem dX2_start_1 : decode cX2_start 1 = .ok (.iconst 1, 1) := by decide +kernel
theorem dX2_start_2 : decode cX2_start 2 = .ok (.putfield 9, 3) := by decide +kernel
theorem dX2_start_5 : decode cX2_start 5 = .ok (.aload_n 0, 1) := by decide +kernel
theorem dX2_start_6 : decode cX2_start 6 = .ok (.iconst 0, 1) := by decide +kernel
theorem dX2_start_7 : decode cX2_start 7 = .ok (.putfield 15, 3) := by decide +kernel
theorem dX2_start_10 : decode cX2_start 10 = .ok (.aload_n 0, 1) := by decide +kernel
theorem dX2_start_11 : decode cX2_start 11 = .ok (.iconst 0, 1) := by decide +kernel
theorem dX2_start_12 : decode cX2_start 12 = .ok (.putfield 18, 3) := by decide +kernel
theorem dX2_start_15 : decode cX2_start 15 = .ok (.aload_n 0, 1) := by decide +kernel
theorem dX2_start_16 : decode cX2_start 16 = .ok (.iconst 0, 1) := by decide +kernel
theorem dX2_start_17 : decode cX2_start 17 = .ok (.putfield 22, 3) := by decide +kernel
theorem dX2_start_20 : decode cX2_start 20 = .ok (.aload_n 0, 1) := by decide +kernel
theorem dX2_start_21 : decode cX2_start 21 = .ok (.bipush (-5), 2) := by decide +kernel
theorem dX2_start_23 : decode cX2_start 23 = .ok (.putfield 25, 3) := by decide +kernel
theorem dX2_start_26 : decode cX2_start 26 = .ok (.aload_n 0, 1) := by decide +kernel
theorem dX2_start_27 : decode cX2_start 27 = .ok (.iconst 0, 1) := by decide +kernel
theorem dX2_start_28 : decode cX2_start 28 = .ok (.putfield 28, 3) := by decide +kernel
theorem dX2_start_31 : decode cX2_start 31 = .ok (.aload_n 0, 1) := by decide +kernel
theorem dX2_start_32 : decode cX2_start 32 = .ok (.iconst 0, 1) := by decide +kernel
theorem dX2_start_33 : decode cX2_start 33 = .ok (.putfield 31, 3) := by decide +kernel
theorem dX2_start_36 : decode cX2_start 36 = .ok (.aload_n 0, 1) := by decide +kernel
theorem dX2_start_37 : decode cX2_start 37 = .ok (.iload_n 1, 1) := by decide +kernel
theorem dX2_start_38 : decode cX2_start 38 = .ok (.putfield 34, 3) := by decide +kernel
theorem dX2_start_41 : decode cX2_start 41 = .ok (.aload_n 0, 1) := by decide +kernel
theorem dX2_start_42 : decode cX2_start 42 = .ok (.iconst 0, 1) := by decide +kernel
theorem dX2_start_43 : decode cX2_start 43 = .ok (.putfield 37, 3) := by decide +kernel
theorem dX2_start_46 : decode cX2_start 46 = .ok (.aload_n 0, 1) := by decide +kernel
theorem dX2_start_47 : decode cX2_start 47 = .ok (.iconst 0, 1) := by decide +kernel
theorem dX2_start_48 : decode cX2_start 48 = .ok (.putfield 40, 3) := by decide +kernel
theorem dX2_start_51 : decode cX2_start 51 = .ok (.aload_n 0, 1) := by decide +kernel
theorem dX2_start_52 : decode cX2_start 52 = .ok (.iconst 0, 1) := by decide +kernel
theorem dX2_start_53 : decode cX2_start 53 = .ok (.putfield 43, 3) := by decide +kernel
theorem dX2_start_56 : decode cX2_start 56 = .ok (.aload_n 0, 1) := by decide +kernel
theorem dX2_start_57 : decode cX2_start 57 = .ok (.iconst 0, 1) := by decide +kernel
theorem dX2_start_58 : decode cX2_start 58 = .ok (.putfield 46, 3) := by decide +kernel
theorem dX2_start_61 : decode cX2_start 61 = .ok (.aload_n 0, 1) := by decide +kernel
theorem dX2_start_62 : decode cX2_start 62 = .ok (.iconst 0, 1) := by decide +kernel
theorem dX2_start_63 : decode cX2_start 63 = .ok (.putfield 49, 3) := by decide +kernel
theorem dX2_start_66 : decode cX2_start 66 = .ok (.return_, 1) := by decide +kernel
theorem dX2_breakOff_0 : decode cX2_breakOff 0 = .ok (.aload_n 0, 1) := by decide +kernel
theorem dX2_breakOff_1 : decode cX2_breakOff 1 = .ok (.iconst 0, 1) := by decide +kernel
theorem dX2_breakOff_2 : decode cX2_breakOff 2 = .ok (.putfield 9, 3) := by decide +kernel
theorem dX2_breakOff_5 : decode cX2_breakOff 5 = .ok (.aload_n 0, 1) := by decide +kernel
theorem dX2_breakOff_6 : decode cX2_breakOff 6 = .ok (.bipush (-5), 2) := by decide +kernel
theorem dX2_breakOff_8 : decode cX2_breakOff 8 = .ok (.putfield 25, 3) := by decide +kernel
theorem dX2_breakOff_11 : decode cX2_breakOff 11 = .ok (.aload_n 0, 1) := by decide +kernel
theorem dX2_breakOff_12 : decode cX2_breakOff 12 = .ok (.iconst 0, 1) := by decide +kernel
theorem dX2_breakOff_13 : decode cX2_breakOff 13 = .ok (.putfield 28, 3) := by decide +kernel
theorem dX2_breakOff_16 : decode cX2_breakOff 16 = .ok (.return_, 1) := by decide +kernel
theorem dX2_run_0 : decode cX2_run 0 = .ok (.aload_n 0, 1) := by decide +kernel
theorem dX2_run_1 : decode cX2_run 1 = .ok (.getfield 31, 3) := by decide +kernel
theorem dX2_run_4 : decode cX2_run 4 = .ok (.istore_n 3, 1) := by decide +kernel
theorem dX2_run_5 : decode cX2_run 5 = .ok (.iconst 0, 1) := by decide +kernel
theorem dX2_run_6 : decode cX2_run 6 = .ok (.istore 4, 2) := by decide +kernel
theorem dX2_run_8 : decode cX2_run 8 = .ok (.iload 4, 2) := by decide +kernel
theorem dX2_run_10 : decode cX2_run 10 = .ok (.iload_n 2, 1) := by decide +kernel
theorem dX2_run_11 : decode cX2_run 11 = .ok (.if_icmp .ge 74, 3) := by decide +kernel
theorem dX2_run_14 : decode cX2_run 14 = .ok (.aload_n 0, 1) := by decide +kernel
theorem dX2_run_15 : decode cX2_run 15 = .ok (.getfield 9, 3) := by decide +kernel
theorem dX2_run_18 : decode cX2_run 18 = .ok (.ifCond .eq 67, 3) := by decide +kernel
theorem dX2_run_21 : decode cX2_run 21 = .ok (.aload_n 0, 1) := by decide +kernel
theorem dX2_run_22 : decode cX2_run 22 = .ok (.getfield 25, 3) := by decide +kernel
theorem dX2_run_25 : decode cX2_run 25 = .ok (.bipush (-5), 2) := by decide +kernel
theorem dX2_run_27 : decode cX2_run 27 = .ok (.if_icmp .ne 11, 3) := by decide +kernel
theorem dX2_run_30 : decode cX2_run 30 = .ok (.aload_n 0, 1) := by decide +kernel
theorem dX2_run_31 : decode cX2_run 31 = .ok (.aload_n 1, 1) := by decide +kernel
theorem dX2_run_32 : decode cX2_run 32 = .ok (.invokevirtual 65, 3) := by decide +kernel
theorem dX2_run_35 : decode cX2_run 35 = .ok (.goto 34, 3) := by decide +kernel
theorem dX2_run_38 : decode cX2_run 38 = .ok (.aload_n 0, 1) := by decide +kernel
theorem dX2_run_39 : decode cX2_run 39 = .ok (.aload_n 0, 1) := by decide +kernel
theorem dX2_run_40 : decode cX2_run 40 = .ok (.getfield 25, 3) := by decide +kernel
theorem dX2_run_43 : decode cX2_run 43 = .ok (.invokevirtual 69, 3) := by decide +kernel
theorem dX2_run_46 : decode cX2_run 46 = .ok (.aload_n 1, 1) := by decide +kernel
theorem dX2_run_47 : decode cX2_run 47 = .ok (.aload_n 0, 1) := by decide +kernel
theorem dX2_run_48 : decode cX2_run 48 = .ok (.getfield 25, 3) := by decide +kernel
theorem dX2_run_51 : decode cX2_run 51 = .ok (.invokevirtual 73, 3) := by decide +kernel
theorem dX2_run_54 : decode cX2_run 54 = .ok (.if_icmp .ge 11, 3) := by decide +kernel
theorem dX2_run_57 : decode cX2_run 57 = .ok (.aload_n 0, 1) := by decide +kernel
theorem dX2_run_58 : decode cX2_run 58 = .ok (.aload_n 1, 1) := by decide +kernel
theorem dX2_run_59 : decode cX2_run 59 = .ok (.invokevirtual 78, 3) := by decide +kernel
theorem dX2_run_62 : decode cX2_run 62 = .ok (.goto 7, 3) := by decide +kernel
theorem dX2_run_65 : decode cX2_run 65 = .ok (.aload_n 0, 1) := by decide +kernel
theorem dX2_run_66 : decode cX2_run 66 = .ok (.invokevirtual 81, 3) := by decide +kernel
theorem dX2_run_69 : decode cX2_run 69 = .ok (.aload_n 0, 1) := by decide +kernel
theorem dX2_run_70 : decode cX2_run 70 = .ok (.dup, 1) := by decide +kernel
theorem dX2_run_71 : decode cX2_run 71 = .ok (.getfield 31, 3) := by decide +kernel
theorem dX2_run_74 : decode cX2_run 74 = .ok (.iconst 1, 1) := by decide +kernel
theorem dX2_run_75 : decode cX2_run 75 = .ok (.iadd, 1) := by decide +kernel
theorem dX2_run_76 : decode cX2_run 76 = .ok (.putfield 31, 3) := by decide +kernel
theorem dX2_run_79 : decode cX2_run 79 = .ok (.iinc 4 1, 3) := by decide +kernel
theorem dX2_run_82 : decode cX2_run 82 = .ok (.goto (-74), 3) := by decide +kernel
theorem dX2_run_85 : decode cX2_run 85 = .ok (.aload_n 0, 1) := by decide +kernel
theorem dX2_run_86 : decode cX2_run 86 = .ok (.getfield 31, 3) := by decide +kernel
theorem dX2_run_89 : decode cX2_run 89 = .ok (.iload_n 3, 1) := by decide +kernel
theorem dX2_run_90 : decode cX2_run 90 = .ok (.isub, 1) := by decide +kernel
theorem dX2_run_91 : decode cX2_run 91 = .ok (.ireturn, 1) := by decide +kernel
theorem dX2_setOut_0 : decode cX2_setOut 0 = .ok (.aload_n 0, 1) := by decide +kernel
theorem dX2_setOut_1 : decode cX2_setOut 1 = .ok (.getfield 37, 3) := by decide +kernel
theorem dX2_setOut_4 : decode cX2_setOut 4 = .ok (.iconst 4, 1) := by decide +kernel
theorem dX2_setOut_5 : decode cX2_setOut 5 = .ok (.if_icmp .ge 52, 3) := by decide +kernel
theorem dX2_setOut_8 : decode cX2_setOut 8 = .ok (.aload_n 1, 1) := by decide +kernel
theorem dX2_setOut_9 : decode cX2_setOut 9 = .ok (.aload_n 0, 1) := by decide +kernel
theorem dX2_setOut_10 : decode cX2_setOut 10 = .ok (.getfield 37, 3) := by decide +kernel
theorem dX2_setOut_13 : decode cX2_setOut 13 = .ok (.invokevirtual 84, 3) := by decide +kernel
theorem dX2_setOut_16 : decode cX2_setOut 16 = .ok (.istore_n 2, 1) := by decide +kernel
theorem dX2_setOut_17 : decode cX2_setOut 17 = .ok (.iload_n 2, 1) := by decide +kernel
theorem dX2_setOut_18 : decode cX2_setOut 18 = .ok (.bipush (-5), 2) := by decide +kernel
theorem dX2_setOut_20 : decode cX2_setOut 20 = .ok (.if_icmp .eq 24, 3) := by decide +kernel
theorem dX2_setOut_23 : decode cX2_setOut 23 = .ok (.aload_n 0, 1) := by decide +kernel
theorem dX2_setOut_24 : decode cX2_setOut 24 = .ok (.getfield 18, 3) := by decide +kernel
theorem dX2_setOut_27 : decode cX2_setOut 27 = .ok (.iload_n 2, 1) := by decide +kernel
theorem dX2_setOut_28 : decode cX2_setOut 28 = .ok (.invokestatic 87, 3) := by decide +kernel
theorem dX2_setOut_31 : decode cX2_setOut 31 = .ok (.ifCond .ne 13, 3) := by decide +kernel
theorem dX2_setOut_34 : decode cX2_setOut 34 = .ok (.aload_n 0, 1) := by decide +kernel
theorem dX2_setOut_35 : decode cX2_setOut 35 = .ok (.iload_n 2, 1) := by decide +kernel
theorem dX2_setOut_36 : decode cX2_setOut 36 = .ok (.invokevirtual 91, 3) := by decide +kernel
theorem dX2_setOut_39 : decode cX2_setOut 39 = .ok (.aload_n 0, 1) := by decide +kernel
theorem dX2_setOut_40 : decode cX2_setOut 40 = .ok (.iload_n 2, 1) := by decide +kernel
theorem dX2_setOut_41 : decode cX2_setOut 41 = .ok (.putfield 25, 3) := by decide +kernel
theorem dX2_setOut_44 : decode cX2_setOut 44 = .ok (.aload_n 0, 1) := by decide +kernel
theorem dX2_setOut_45 : decode cX2_setOut 45 = .ok (.dup, 1) := by decide +kernel
theorem dX2_setOut_46 : decode cX2_setOut 46 = .ok (.getfield 37, 3) := by decide +kernel
theorem dX2_setOut_49 : decode cX2_setOut 49 = .ok (.iconst 1, 1) := by decide +kernel
theorem dX2_setOut_50 : decode cX2_setOut 50 = .ok (.iadd, 1) := by decide +kernel
theorem dX2_setOut_51 : decode cX2_setOut 51 = .ok (.putfield 37, 3) := by decide +kernel
theorem dX2_setOut_54 : decode cX2_setOut 54 = .ok (.goto 61, 3) := by decide +kernel
theorem dX2_setOut_57 : decode cX2_setOut 57 = .ok (.aload_n 0, 1) := by decide +kernel
theorem dX2_setOut_58 : decode cX2_setOut 58 = .ok (.getfield 22, 3) := by decide +kernel
theorem dX2_setOut_61 : decode cX2_setOut 61 = .ok (.ifCond .eq 44, 3) := by decide +kernel
theorem dX2_setOut_64 : decode cX2_setOut 64 = .ok (.aload_n 0, 1) := by decide +kernel
theorem dX2_setOut_65 : decode cX2_setOut 65 = .ok (.aload_n 0, 1) := by decide +kernel
theorem dX2_setOut_66 : decode cX2_setOut 66 = .ok (.getfield 22, 3) := by decide +kernel
theorem dX2_setOut_69 : decode cX2_setOut 69 = .ok (.invokestatic 95, 3) := by decide +kernel
theorem dX2_setOut_72 : decode cX2_setOut 72 = .ok (.putfield 25, 3) := by decide +kernel
theorem dX2_setOut_75 : decode cX2_setOut 75 = .ok (.aload_n 0, 1) := by decide +kernel
theorem dX2_setOut_76 : decode cX2_setOut 76 = .ok (.dup, 1) := by decide +kernel
theorem dX2_setOut_77 : decode cX2_setOut 77 = .ok (.getfield 22, 3) := by decide +kernel
theorem dX2_setOut_80 : decode cX2_setOut 80 = .ok (.aload_n 0, 1) := by decide +kernel
theorem dX2_setOut_81 : decode cX2_setOut 81 = .ok (.getfield 25, 3) := by decide +kernel
theorem dX2_setOut_84 : decode cX2_setOut 84 = .ok (.invokestatic 98, 3) := by decide +kernel
theorem dX2_setOut_87 : decode cX2_setOut 87 = .ok (.iconst (-1), 1) := by decide +kernel
theorem dX2_setOut_88 : decode cX2_setOut 88 = .ok (.ixor, 1) := by decide +kernel
theorem dX2_setOut_89 : decode cX2_setOut 89 = .ok (.iand, 1) := by decide +kernel
theorem dX2_setOut_90 : decode cX2_setOut 90 = .ok (.putfield 22, 3) := by decide +kernel
theorem dX2_setOut_93 : decode cX2_setOut 93 = .ok (.aload_n 0, 1) := by decide +kernel
theorem dX2_setOut_94 : decode cX2_setOut 94 = .ok (.aload_n 0, 1) := by decide +kernel
theorem dX2_setOut_95 : decode cX2_setOut 95 = .ok (.getfield 25, 3) := by decide +kernel
theorem dX2_setOut_98 : decode cX2_setOut 98 = .ok (.iconst 0, 1) := by decide +kernel
theorem dX2_setOut_99 : decode cX2_setOut 99 = .ok (.invokevirtual 101, 3) := by decide +kernel
theorem dX2_setOut_102 : decode cX2_setOut 102 = .ok (.goto 13, 3) := by decide +kernel
theorem dX2_setOut_105 : decode cX2_setOut 105 = .ok (.aload_n 0, 1) := by decide +kernel
theorem dX2_setOut_106 : decode cX2_setOut 106 = .ok (.iconst 0, 1) := by decide +kernel
theorem dX2_setOut_107 : decode cX2_setOut 107 = .ok (.putfield 9, 3) := by decide +kernel
theorem dX2_setOut_110 : decode cX2_setOut 110 = .ok (.aload_n 0, 1) := by decide +kernel
theorem dX2_setOut_111 : decode cX2_setOut 111 = .ok (.iconst 1, 1) := by decide +kernel
theorem dX2_setOut_112 : decode cX2_setOut 112 = .ok (.putfield 15, 3) := by decide +kernel
theorem dX2_setOut_115 : decode cX2_setOut 115 = .ok (.return_, 1) := by decide +kernel
theorem dX2_goOn_0 : decode cX2_goOn 0 = .ok (.aload_n 1, 1) := by decide +kernel
theorem dX2_goOn_1 : decode cX2_goOn 1 = .ok (.aload_n 0, 1) := by decide +kernel
theorem dX2_goOn_2 : decode cX2_goOn 2 = .ok (.getfield 25, 3) := by decide +kernel
theorem dX2_goOn_5 : decode cX2_goOn 5 = .ok (.aload_n 0, 1) := by decide +kernel
theorem dX2_goOn_6 : decode cX2_goOn 6 = .ok (.aload_n 0, 1) := by decide +kernel
theorem dX2_goOn_7 : decode cX2_goOn 7 = .ok (.getfield 25, 3) := by decide +kernel
theorem dX2_goOn_10 : decode cX2_goOn 10 = .ok (.invokevirtual 69, 3) := by decide +kernel
theorem dX2_goOn_13 : decode cX2_goOn 13 = .ok (.invokevirtual 105, 3) := by decide +kernel
theorem dX2_goOn_16 : decode cX2_goOn 16 = .ok (.istore_n 2, 1) := by decide +kernel
theorem dX2_goOn_17 : decode cX2_goOn 17 = .ok (.iload_n 2, 1) := by decide +kernel
theorem dX2_goOn_18 : decode cX2_goOn 18 = .ok (.bipush (-5), 2) := by decide +kernel
theorem dX2_goOn_20 : decode cX2_goOn 20 = .ok (.if_icmp .eq 14, 3) := by decide +kernel
theorem dX2_goOn_23 : decode cX2_goOn 23 = .ok (.aload_n 0, 1) := by decide +kernel
theorem dX2_goOn_24 : decode cX2_goOn 24 = .ok (.getfield 18, 3) := by decide +kernel
theorem dX2_goOn_27 : decode cX2_goOn 27 = .ok (.iload_n 2, 1) := by decide +kernel
theorem dX2_goOn_28 : decode cX2_goOn 28 = .ok (.invokestatic 87, 3) := by decide +kernel
theorem dX2_goOn_31 : decode cX2_goOn 31 = .ok (.ifCond .eq 22, 3) := by decide +kernel
theorem dX2_goOn_34 : decode cX2_goOn 34 = .ok (.aload_n 0, 1) := by decide +kernel
theorem dX2_goOn_35 : decode cX2_goOn 35 = .ok (.aload_n 0, 1) := by decide +kernel
theorem dX2_goOn_36 : decode cX2_goOn 36 = .ok (.getfield 25, 3) := by decide +kernel
theorem dX2_goOn_39 : decode cX2_goOn 39 = .ok (.aload_n 0, 1) := by decide +kernel
theorem dX2_goOn_40 : decode cX2_goOn 40 = .ok (.aload_n 0, 1) := by decide +kernel
theorem dX2_goOn_41 : decode cX2_goOn 41 = .ok (.getfield 25, 3) := by decide +kernel
theorem dX2_goOn_44 : decode cX2_goOn 44 = .ok (.invokevirtual 69, 3) := by decide +kernel
theorem dX2_goOn_47 : decode cX2_goOn 47 = .ok (.iconst 1, 1) := by decide +kernel
theorem dX2_goOn_48 : decode cX2_goOn 48 = .ok (.iadd, 1) := by decide +kernel
theorem dX2_goOn_49 : decode cX2_goOn 49 = .ok (.invokevirtual 101, 3) := by decide +kernel
theorem dX2_goOn_52 : decode cX2_goOn 52 = .ok (.return_, 1) := by decide +kernel
theorem dX2_goOn_53 : decode cX2_goOn 53 = .ok (.aload_n 0, 1) := by decide +kernel
theorem dX2_goOn_54 : decode cX2_goOn 54 = .ok (.iload_n 2, 1) := by decide +kernel
theorem dX2_goOn_55 : decode cX2_goOn 55 = .ok (.invokevirtual 91, 3) := by decide +kernel
theorem dX2_goOn_58 : decode cX2_goOn 58 = .ok (.aload_n 0, 1) := by decide +kernel
theorem dX2_goOn_59 : decode cX2_goOn 59 = .ok (.getfield 28, 3) := by decide +kernel
theorem dX2_goOn_62 : decode cX2_goOn 62 = .ok (.aload_n 0, 1) := by decide +kernel
theorem dX2_goOn_63 : decode cX2_goOn 63 = .ok (.getfield 34, 3) := by decide +kernel
theorem dX2_goOn_66 : decode cX2_goOn 66 = .ok (.if_icmp .ge 21, 3) := by decide +kernel
theorem dX2_goOn_69 : decode cX2_goOn 69 = .ok (.aload_n 0, 1) := by decide +kernel
theorem dX2_goOn_70 : decode cX2_goOn 70 = .ok (.dup, 1) := by decide +kernel
theorem dX2_goOn_71 : decode cX2_goOn 71 = .ok (.getfield 43, 3) := by decide +kernel
theorem dX2_goOn_74 : decode cX2_goOn 74 = .ok (.iconst 1, 1) := by decide +kernel
theorem dX2_goOn_75 : decode cX2_goOn 75 = .ok (.iadd, 1) := by decide +kernel
theorem dX2_goOn_76 : decode cX2_goOn 76 = .ok (.putfield 43, 3) := by decide +kernel
theorem dX2_goOn_79 : decode cX2_goOn 79 = .ok (.aload_n 0, 1) := by decide +kernel
theorem dX2_goOn_80 : decode cX2_goOn 80 = .ok (.iload_n 2, 1) := by decide +kernel
theorem dX2_goOn_81 : decode cX2_goOn 81 = .ok (.invokevirtual 109, 3) := by decide +kernel
theorem dX2_goOn_84 : decode cX2_goOn 84 = .ok (.goto 76, 3) := by decide +kernel
theorem dX2_goOn_87 : decode cX2_goOn 87 = .ok (.aload_n 1, 1) := by decide +kernel
theorem dX2_goOn_88 : decode cX2_goOn 88 = .ok (.getfield 112, 3) := by decide +kernel
theorem dX2_goOn_91 : decode cX2_goOn 91 = .ok (.aload_n 0, 1) := by decide +kernel
theorem dX2_goOn_92 : decode cX2_goOn 92 = .ok (.getfield 25, 3) := by decide +kernel
theorem dX2_goOn_95 : decode cX2_goOn 95 = .ok (.invokestatic 87, 3) := by decide +kernel
theorem dX2_goOn_98 : decode cX2_goOn 98 = .ok (.ifCond .ne 21, 3) := by decide +kernel
theorem dX2_goOn_101 : decode cX2_goOn 101 = .ok (.aload_n 0, 1) := by decide +kernel
theorem dX2_goOn_102 : decode cX2_goOn 102 = .ok (.dup, 1) := by decide +kernel
theorem dX2_goOn_103 : decode cX2_goOn 103 = .ok (.getfield 40, 3) := by decide +kernel
theorem dX2_goOn_106 : decode cX2_goOn 106 = .ok (.iconst 1, 1) := by decide +kernel
theorem dX2_goOn_107 : decode cX2_goOn 107 = .ok (.iadd, 1) := by decide +kernel
theorem dX2_goOn_108 : decode cX2_goOn 108 = .ok (.putfield 40, 3) := by decide +kernel
theorem dX2_goOn_111 : decode cX2_goOn 111 = .ok (.aload_n 0, 1) := by decide +kernel
theorem dX2_goOn_112 : decode cX2_goOn 112 = .ok (.iload_n 2, 1) := by decide +kernel
theorem dX2_goOn_113 : decode cX2_goOn 113 = .ok (.invokevirtual 109, 3) := by decide +kernel
theorem dX2_goOn_116 : decode cX2_goOn 116 = .ok (.goto 44, 3) := by decide +kernel
theorem dX2_goOn_119 : decode cX2_goOn 119 = .ok (.aload_n 0, 1) := by decide +kernel
theorem dX2_goOn_120 : decode cX2_goOn 120 = .ok (.dup, 1) := by decide +kernel
theorem dX2_goOn_121 : decode cX2_goOn 121 = .ok (.getfield 46, 3) := by decide +kernel
theorem dX2_goOn_124 : decode cX2_goOn 124 = .ok (.iconst 1, 1) := by decide +kernel
theorem dX2_goOn_125 : decode cX2_goOn 125 = .ok (.iadd, 1) := by decide +kernel
theorem dX2_goOn_126 : decode cX2_goOn 126 = .ok (.putfield 46, 3) := by decide +kernel
theorem dX2_goOn_129 : decode cX2_goOn 129 = .ok (.aload_n 0, 1) := by decide +kernel
theorem dX2_goOn_130 : decode cX2_goOn 130 = .ok (.dup, 1) := by decide +kernel
theorem dX2_goOn_131 : decode cX2_goOn 131 = .ok (.getfield 22, 3) := by decide +kernel
theorem dX2_goOn_134 : decode cX2_goOn 134 = .ok (.iload_n 2, 1) := by decide +kernel
theorem dX2_goOn_135 : decode cX2_goOn 135 = .ok (.invokestatic 98, 3) := by decide +kernel
theorem dX2_goOn_138 : decode cX2_goOn 138 = .ok (.ior, 1) := by decide +kernel
theorem dX2_goOn_139 : decode cX2_goOn 139 = .ok (.putfield 22, 3) := by decide +kernel
theorem dX2_goOn_142 : decode cX2_goOn 142 = .ok (.aload_n 0, 1) := by decide +kernel
theorem dX2_goOn_143 : decode cX2_goOn 143 = .ok (.aload_n 0, 1) := by decide +kernel
theorem dX2_goOn_144 : decode cX2_goOn 144 = .ok (.getfield 25, 3) := by decide +kernel
theorem dX2_goOn_147 : decode cX2_goOn 147 = .ok (.aload_n 0, 1) := by decide +kernel
theorem dX2_goOn_148 : decode cX2_goOn 148 = .ok (.aload_n 0, 1) := by decide +kernel
theorem dX2_goOn_149 : decode cX2_goOn 149 = .ok (.getfield 25, 3) := by decide +kernel
theorem dX2_goOn_152 : decode cX2_goOn 152 = .ok (.invokevirtual 69, 3) := by decide +kernel
theorem dX2_goOn_155 : decode cX2_goOn 155 = .ok (.iconst 1, 1) := by decide +kernel
theorem dX2_goOn_156 : decode cX2_goOn 156 = .ok (.iadd, 1) := by decide +kernel
theorem dX2_goOn_157 : decode cX2_goOn 157 = .ok (.invokevirtual 101, 3) := by decide +kernel
theorem dX2_goOn_160 : decode cX2_goOn 160 = .ok (.return_, 1) := by decide +kernel
theorem dX2_goDown_0 : decode cX2_goDown 0 = .ok (.aload_n 0, 1) := by decide +kernel
theorem dX2_goDown_1 : decode cX2_goDown 1 = .ok (.getfield 28, 3) := by decide +kernel
theorem dX2_goDown_4 : decode cX2_goDown 4 = .ok (.bipush 24, 2) := by decide +kernel
theorem dX2_goDown_6 : decode cX2_goDown 6 = .ok (.if_icmp .ge 26, 3) := by decide +kernel
theorem dX2_goDown_9 : decode cX2_goDown 9 = .ok (.aload_n 0, 1) := by decide +kernel
theorem dX2_goDown_10 : decode cX2_goDown 10 = .ok (.getfield 52, 3) := by decide +kernel
theorem dX2_goDown_13 : decode cX2_goDown 13 = .ok (.aload_n 0, 1) := by decide +kernel
theorem dX2_goDown_14 : decode cX2_goDown 14 = .ok (.getfield 28, 3) := by decide +kernel
theorem dX2_goDown_17 : decode cX2_goDown 17 = .ok (.aload_n 0, 1) := by decide +kernel
theorem dX2_goDown_18 : decode cX2_goDown 18 = .ok (.getfield 25, 3) := by decide +kernel
theorem dX2_goDown_21 : decode cX2_goDown 21 = .ok (.iastore, 1) := by decide +kernel
theorem dX2_goDown_22 : decode cX2_goDown 22 = .ok (.aload_n 0, 1) := by decide +kernel
theorem dX2_goDown_23 : decode cX2_goDown 23 = .ok (.dup, 1) := by decide +kernel
theorem dX2_goDown_24 : decode cX2_goDown 24 = .ok (.getfield 28, 3) := by decide +kernel
theorem dX2_goDown_27 : decode cX2_goDown 27 = .ok (.iconst 1, 1) := by decide +kernel
theorem dX2_goDown_28 : decode cX2_goDown 28 = .ok (.iadd, 1) := by decide +kernel
theorem dX2_goDown_29 : decode cX2_goDown 29 = .ok (.putfield 28, 3) := by decide +kernel
theorem dX2_goDown_32 : decode cX2_goDown 32 = .ok (.aload_n 0, 1) := by decide +kernel
theorem dX2_goDown_33 : decode cX2_goDown 33 = .ok (.aload_n 0, 1) := by decide +kernel
theorem dX2_goDown_34 : decode cX2_goDown 34 = .ok (.getfield 49, 3) := by decide +kernel
theorem dX2_goDown_37 : decode cX2_goDown 37 = .ok (.aload_n 0, 1) := by decide +kernel
theorem dX2_goDown_38 : decode cX2_goDown 38 = .ok (.getfield 28, 3) := by decide +kernel
theorem dX2_goDown_41 : decode cX2_goDown 41 = .ok (.invokestatic 115, 3) := by decide +kernel
theorem dX2_goDown_44 : decode cX2_goDown 44 = .ok (.putfield 49, 3) := by decide +kernel
theorem dX2_goDown_47 : decode cX2_goDown 47 = .ok (.aload_n 0, 1) := by decide +kernel
theorem dX2_goDown_48 : decode cX2_goDown 48 = .ok (.iload_n 1, 1) := by decide +kernel
theorem dX2_goDown_49 : decode cX2_goDown 49 = .ok (.putfield 25, 3) := by decide +kernel
theorem dX2_goDown_52 : decode cX2_goDown 52 = .ok (.return_, 1) := by decide +kernel
theorem dX2_comeUp_0 : decode cX2_comeUp 0 = .ok (.aload_n 0, 1) := by decide +kernel
theorem dX2_comeUp_1 : decode cX2_comeUp 1 = .ok (.getfield 28, 3) := by decide +kernel
theorem dX2_comeUp_4 : decode cX2_comeUp 4 = .ok (.ifCond .le 56, 3) := by decide +kernel
theorem dX2_comeUp_7 : decode cX2_comeUp 7 = .ok (.aload_n 0, 1) := by decide +kernel
theorem dX2_comeUp_8 : decode cX2_comeUp 8 = .ok (.getfield 28, 3) := by decide +kernel
theorem dX2_comeUp_11 : decode cX2_comeUp 11 = .ok (.bipush 24, 2) := by decide +kernel
theorem dX2_comeUp_13 : decode cX2_comeUp 13 = .ok (.if_icmp .gt 47, 3) := by decide +kernel
theorem dX2_comeUp_16 : decode cX2_comeUp 16 = .ok (.aload_n 0, 1) := by decide +kernel
theorem dX2_comeUp_17 : decode cX2_comeUp 17 = .ok (.dup, 1) := by decide +kernel
theorem dX2_comeUp_18 : decode cX2_comeUp 18 = .ok (.getfield 28, 3) := by decide +kernel
theorem dX2_comeUp_21 : decode cX2_comeUp 21 = .ok (.iconst 1, 1) := by decide +kernel
theorem dX2_comeUp_22 : decode cX2_comeUp 22 = .ok (.isub, 1) := by decide +kernel
theorem dX2_comeUp_23 : decode cX2_comeUp 23 = .ok (.putfield 28, 3) := by decide +kernel
theorem dX2_comeUp_26 : decode cX2_comeUp 26 = .ok (.aload_n 0, 1) := by decide +kernel
theorem dX2_comeUp_27 : decode cX2_comeUp 27 = .ok (.aload_n 0, 1) := by decide +kernel
theorem dX2_comeUp_28 : decode cX2_comeUp 28 = .ok (.getfield 52, 3) := by decide +kernel
theorem dX2_comeUp_31 : decode cX2_comeUp 31 = .ok (.aload_n 0, 1) := by decide +kernel
theorem dX2_comeUp_32 : decode cX2_comeUp 32 = .ok (.getfield 28, 3) := by decide +kernel
theorem dX2_comeUp_35 : decode cX2_comeUp 35 = .ok (.iaload, 1) := by decide +kernel
theorem dX2_comeUp_36 : decode cX2_comeUp 36 = .ok (.putfield 25, 3) := by decide +kernel
theorem dX2_comeUp_39 : decode cX2_comeUp 39 = .ok (.aload_n 0, 1) := by decide +kernel
theorem dX2_comeUp_40 : decode cX2_comeUp 40 = .ok (.aload_n 0, 1) := by decide +kernel
theorem dX2_comeUp_41 : decode cX2_comeUp 41 = .ok (.getfield 25, 3) := by decide +kernel
theorem dX2_comeUp_44 : decode cX2_comeUp 44 = .ok (.aload_n 0, 1) := by decide +kernel
theorem dX2_comeUp_45 : decode cX2_comeUp 45 = .ok (.aload_n 0, 1) := by decide +kernel
theorem dX2_comeUp_46 : decode cX2_comeUp 46 = .ok (.getfield 25, 3) := by decide +kernel
theorem dX2_comeUp_49 : decode cX2_comeUp 49 = .ok (.invokevirtual 69, 3) := by decide +kernel
theorem dX2_comeUp_52 : decode cX2_comeUp 52 = .ok (.iconst 1, 1) := by decide +kernel
theorem dX2_comeUp_53 : decode cX2_comeUp 53 = .ok (.iadd, 1) := by decide +kernel
theorem dX2_comeUp_54 : decode cX2_comeUp 54 = .ok (.invokevirtual 101, 3) := by decide +kernel
theorem dX2_comeUp_57 : decode cX2_comeUp 57 = .ok (.goto 9, 3) := by decide +kernel
theorem dX2_comeUp_60 : decode cX2_comeUp 60 = .ok (.aload_n 0, 1) := by decide +kernel
theorem dX2_comeUp_61 : decode cX2_comeUp 61 = .ok (.bipush (-5), 2) := by decide +kernel
theorem dX2_comeUp_63 : decode cX2_comeUp 63 = .ok (.putfield 25, 3) := by decide +kernel
theorem dX2_comeUp_66 : decode cX2_comeUp 66 = .ok (.return_, 1) := by decide +kernel
theorem dX2_mark_0 : decode cX2_mark 0 = .ok (.aload_n 0, 1) := by decide +kernel
theorem dX2_mark_1 : decode cX2_mark 1 = .ok (.dup, 1) := by decide +kernel
theorem dX2_mark_2 : decode cX2_mark 2 = .ok (.getfield 18, 3) := by decide +kernel
theorem dX2_mark_5 : decode cX2_mark 5 = .ok (.iload_n 1, 1) := by decide +kernel
theorem dX2_mark_6 : decode cX2_mark 6 = .ok (.invokestatic 98, 3) := by decide +kernel
theorem dX2_mark_9 : decode cX2_mark 9 = .ok (.ior, 1) := by decide +kernel
theorem dX2_mark_10 : decode cX2_mark 10 = .ok (.putfield 18, 3) := by decide +kernel
theorem dX2_mark_13 : decode cX2_mark 13 = .ok (.aload_n 0, 1) := by decide +kernel
theorem dX2_mark_14 : decode cX2_mark 14 = .ok (.iload_n 1, 1) := by decide +kernel
theorem dX2_mark_15 : decode cX2_mark 15 = .ok (.iconst 0, 1) := by decide +kernel
theorem dX2_mark_16 : decode cX2_mark 16 = .ok (.invokevirtual 101, 3) := by decide +kernel
theorem dX2_mark_19 : decode cX2_mark 19 = .ok (.return_, 1) := by decide +kernel
theorem dX2_putCount_0 : decode cX2_putCount 0 = .ok (.iload_n 1, 1) := by decide +kernel
theorem dX2_putCount_1 : decode cX2_putCount 1 = .ok (.invokestatic 98, 3) := by decide +kernel
theorem dX2_putCount_4 : decode cX2_putCount 4 = .ok (.ifCond .eq 10, 3) := by decide +kernel
theorem dX2_putCount_7 : decode cX2_putCount 7 = .ok (.aload_n 0, 1) := by decide +kernel
theorem dX2_putCount_8 : decode cX2_putCount 8 = .ok (.getfield 56, 3) := by decide +kernel
theorem dX2_putCount_11 : decode cX2_putCount 11 = .ok (.iload_n 1, 1) := by decide +kernel
theorem dX2_putCount_12 : decode cX2_putCount 12 = .ok (.iload_n 2, 1) := by decide +kernel
theorem dX2_putCount_13 : decode cX2_putCount 13 = .ok (.iastore, 1) := by decide +kernel
theorem dX2_putCount_14 : decode cX2_putCount 14 = .ok (.return_, 1) := by decide +kernel
theorem dX2_countOf_0 : decode cX2_countOf 0 = .ok (.iload_n 1, 1) := by decide +kernel
theorem dX2_countOf_1 : decode cX2_countOf 1 = .ok (.invokestatic 98, 3) := by decide +kernel
theorem dX2_countOf_4 : decode cX2_countOf 4 = .ok (.ifCond .eq 12, 3) := by decide +kernel
theorem dX2_countOf_7 : decode cX2_countOf 7 = .ok (.aload_n 0, 1) := by decide +kernel
theorem dX2_countOf_8 : decode cX2_countOf 8 = .ok (.getfield 56, 3) := by decide +kernel
theorem dX2_countOf_11 : decode cX2_countOf 11 = .ok (.iload_n 1, 1) := by decide +kernel
theorem dX2_countOf_12 : decode cX2_countOf 12 = .ok (.iaload, 1) := by decide +kernel
theorem dX2_countOf_13 : decode cX2_countOf 13 = .ok (.goto 4, 3) := by decide +kernel
theorem dX2_countOf_16 : decode cX2_countOf 16 = .ok (.iconst 0, 1) := by decide +kernel
theorem dX2_countOf_17 : decode cX2_countOf 17 = .ok (.ireturn, 1) := by decide +kernel
theorem dX2_tally_0 : decode cX2_tally 0 = .ok (.iload_n 1, 1) := by decide +kernel
theorem dX2_tally_1 : decode cX2_tally 1 = .ok (.tableswitch 51 0 3 #[31, 36, 41, 46], 31) := by decide +kernel
theorem dX2_tally_32 : decode cX2_tally 32 = .ok (.aload_n 0, 1) := by decide +kernel
theorem dX2_tally_33 : decode cX2_tally 33 = .ok (.getfield 31, 3) := by decide +kernel
theorem dX2_tally_36 : decode cX2_tally 36 = .ok (.ireturn, 1) := by decide +kernel
theorem dX2_tally_37 : decode cX2_tally 37 = .ok (.aload_n 0, 1) := by decide +kernel
theorem dX2_tally_38 : decode cX2_tally 38 = .ok (.getfield 40, 3) := by decide +kernel
theorem dX2_tally_41 : decode cX2_tally 41 = .ok (.ireturn, 1) := by decide +kernel
theorem dX2_tally_42 : decode cX2_tally 42 = .ok (.aload_n 0, 1) := by decide +kernel
theorem dX2_tally_43 : decode cX2_tally 43 = .ok (.getfield 43, 3) := by decide +kernel
theorem dX2_tally_46 : decode cX2_tally 46 = .ok (.ireturn, 1) := by decide +kernel
theorem dX2_tally_47 : decode cX2_tally 47 = .ok (.aload_n 0, 1) := by decide +kernel
theorem dX2_tally_48 : decode cX2_tally 48 = .ok (.getfield 46, 3) := by decide +kernel
theorem dX2_tally_51 : decode cX2_tally 51 = .ok (.ireturn, 1) := by decide +kernel
theorem dX2_tally_52 : decode cX2_tally 52 = .ok (.aload_n 0, 1) := by decide +kernel
theorem dX2_tally_53 : decode cX2_tally 53 = .ok (.getfield 49, 3) := by decide +kernel
theorem dX2_tally_56 : decode cX2_tally 56 = .ok (.ireturn, 1) := by decide +kernel
theorem dX2_turnedNow_0 : decode cX2_turnedNow 0 = .ok (.aload_n 0, 1) := by decide +kernel
theorem dX2_turnedNow_1 : decode cX2_turnedNow 1 = .ok (.getfield 28, 3) := by decide +kernel
theorem dX2_turnedNow_4 : decode cX2_turnedNow 4 = .ok (.aload_n 0, 1) := by decide +kernel
theorem dX2_turnedNow_5 : decode cX2_turnedNow 5 = .ok (.getfield 34, 3) := by decide +kernel
theorem dX2_turnedNow_8 : decode cX2_turnedNow 8 = .ok (.isub, 1) := by decide +kernel
theorem dX2_turnedNow_9 : decode cX2_turnedNow 9 = .ok (.iconst 0, 1) := by decide +kernel
theorem dX2_turnedNow_10 : decode cX2_turnedNow 10 = .ok (.invokestatic 115, 3) := by decide +kernel
theorem dX2_turnedNow_13 : decode cX2_turnedNow 13 = .ok (.ireturn, 1) := by decide +kernel
theorem dX2_back_0 : decode cX2_back 0 = .ok (.aload_n 0, 1) := by decide +kernel
theorem dX2_back_1 : decode cX2_back 1 = .ok (.aload_n 0, 1) := by decide +kernel
theorem dX2_back_2 : decode cX2_back 2 = .ok (.getfield 28, 3) := by decide +kernel
theorem dX2_back_5 : decode cX2_back 5 = .ok (.iconst 1, 1) := by decide +kernel
theorem dX2_back_6 : decode cX2_back 6 = .ok (.isub, 1) := by decide +kernel
theorem dX2_back_7 : decode cX2_back 7 = .ok (.invokevirtual 120, 3) := by decide +kernel
theorem dX2_back_10 : decode cX2_back 10 = .ok (.ifCond .eq 17, 3) := by decide +kernel
theorem dX2_back_13 : decode cX2_back 13 = .ok (.aload_n 0, 1) := by decide +kernel
theorem dX2_back_14 : decode cX2_back 14 = .ok (.getfield 52, 3) := by decide +kernel
theorem dX2_back_17 : decode cX2_back 17 = .ok (.aload_n 0, 1) := by decide +kernel
theorem dX2_back_18 : decode cX2_back 18 = .ok (.getfield 28, 3) := by decide +kernel
theorem dX2_back_21 : decode cX2_back 21 = .ok (.iconst 1, 1) := by decide +kernel
theorem dX2_back_22 : decode cX2_back 22 = .ok (.isub, 1) := by decide +kernel
theorem dX2_back_23 : decode cX2_back 23 = .ok (.iaload, 1) := by decide +kernel
theorem dX2_back_24 : decode cX2_back 24 = .ok (.goto 5, 3) := by decide +kernel
theorem dX2_back_27 : decode cX2_back 27 = .ok (.bipush (-5), 2) := by decide +kernel
theorem dX2_back_29 : decode cX2_back 29 = .ok (.ireturn, 1) := by decide +kernel
theorem dX2_hasTurned_0 : decode cX2_hasTurned 0 = .ok (.aload_n 0, 1) := by decide +kernel
theorem dX2_hasTurned_1 : decode cX2_hasTurned 1 = .ok (.aload_n 0, 1) := by decide +kernel
theorem dX2_hasTurned_2 : decode cX2_hasTurned 2 = .ok (.iload_n 1, 1) := by decide +kernel
theorem dX2_hasTurned_3 : decode cX2_hasTurned 3 = .ok (.invokevirtual 124, 3) := by decide +kernel
theorem dX2_hasTurned_6 : decode cX2_hasTurned 6 = .ok (.invokevirtual 120, 3) := by decide +kernel
theorem dX2_hasTurned_9 : decode cX2_hasTurned 9 = .ok (.ireturn, 1) := by decide +kernel
theorem dX2_isTurned_0 : decode cX2_isTurned 0 = .ok (.aload_n 0, 1) := by decide +kernel
theorem dX2_isTurned_1 : decode cX2_isTurned 1 = .ok (.iload_n 1, 1) := by decide +kernel
theorem dX2_isTurned_2 : decode cX2_isTurned 2 = .ok (.invokevirtual 127, 3) := by decide +kernel
theorem dX2_isTurned_5 : decode cX2_isTurned 5 = .ok (.ifCond .eq 16, 3) := by decide +kernel
theorem dX2_isTurned_8 : decode cX2_isTurned 8 = .ok (.aload_n 0, 1) := by decide +kernel
theorem dX2_isTurned_9 : decode cX2_isTurned 9 = .ok (.iload_n 1, 1) := by decide +kernel
theorem dX2_isTurned_10 : decode cX2_isTurned 10 = .ok (.invokevirtual 69, 3) := by decide +kernel
theorem dX2_isTurned_13 : decode cX2_isTurned 13 = .ok (.iload_n 2, 1) := by decide +kernel
theorem dX2_isTurned_14 : decode cX2_isTurned 14 = .ok (.if_icmp .ne 7, 3) := by decide +kernel
theorem dX2_isTurned_17 : decode cX2_isTurned 17 = .ok (.iconst 1, 1) := by decide +kernel
theorem dX2_isTurned_18 : decode cX2_isTurned 18 = .ok (.goto 4, 3) := by decide +kernel
theorem dX2_isTurned_21 : decode cX2_isTurned 21 = .ok (.iconst 0, 1) := by decide +kernel
theorem dX2_isTurned_22 : decode cX2_isTurned 22 = .ok (.ireturn, 1) := by decide +kernel
theorem dX2_backFrom_0 : decode cX2_backFrom 0 = .ok (.aload_n 0, 1) := by decide +kernel
theorem dX2_backFrom_1 : decode cX2_backFrom 1 = .ok (.iload_n 1, 1) := by decide +kernel
theorem dX2_backFrom_2 : decode cX2_backFrom 2 = .ok (.invokevirtual 124, 3) := by decide +kernel
theorem dX2_backFrom_5 : decode cX2_backFrom 5 = .ok (.istore_n 2, 1) := by decide +kernel
theorem dX2_backFrom_6 : decode cX2_backFrom 6 = .ok (.aload_n 0, 1) := by decide +kernel
theorem dX2_backFrom_7 : decode cX2_backFrom 7 = .ok (.iload_n 2, 1) := by decide +kernel
theorem dX2_backFrom_8 : decode cX2_backFrom 8 = .ok (.iconst 1, 1) := by decide +kernel
theorem dX2_backFrom_9 : decode cX2_backFrom 9 = .ok (.isub, 1) := by decide +kernel
theorem dX2_backFrom_10 : decode cX2_backFrom 10 = .ok (.invokevirtual 120, 3) := by decide +kernel
theorem dX2_backFrom_13 : decode cX2_backFrom 13 = .ok (.ifCond .eq 14, 3) := by decide +kernel
theorem dX2_backFrom_16 : decode cX2_backFrom 16 = .ok (.aload_n 0, 1) := by decide +kernel
theorem dX2_backFrom_17 : decode cX2_backFrom 17 = .ok (.getfield 52, 3) := by decide +kernel
theorem dX2_backFrom_20 : decode cX2_backFrom 20 = .ok (.iload_n 2, 1) := by decide +kernel
theorem dX2_backFrom_21 : decode cX2_backFrom 21 = .ok (.iconst 1, 1) := by decide +kernel
theorem dX2_backFrom_22 : decode cX2_backFrom 22 = .ok (.isub, 1) := by decide +kernel
theorem dX2_backFrom_23 : decode cX2_backFrom 23 = .ok (.iaload, 1) := by decide +kernel
theorem dX2_backFrom_24 : decode cX2_backFrom 24 = .ok (.goto 5, 3) := by decide +kernel
theorem dX2_backFrom_27 : decode cX2_backFrom 27 = .ok (.bipush (-5), 2) := by decide +kernel
theorem dX2_backFrom_29 : decode cX2_backFrom 29 = .ok (.ireturn, 1) := by decide +kernel
theorem dX2_turnedAt_0 : decode cX2_turnedAt 0 = .ok (.iload_n 1, 1) := by decide +kernel
theorem dX2_turnedAt_1 : decode cX2_turnedAt 1 = .ok (.ifCond .lt 29, 3) := by decide +kernel
theorem dX2_turnedAt_4 : decode cX2_turnedAt 4 = .ok (.iload_n 1, 1) := by decide +kernel
theorem dX2_turnedAt_5 : decode cX2_turnedAt 5 = .ok (.aload_n 0, 1) := by decide +kernel
theorem dX2_turnedAt_6 : decode cX2_turnedAt 6 = .ok (.getfield 34, 3) := by decide +kernel
theorem dX2_turnedAt_9 : decode cX2_turnedAt 9 = .ok (.if_icmp .lt 21, 3) := by decide +kernel
theorem dX2_turnedAt_12 : decode cX2_turnedAt 12 = .ok (.iload_n 1, 1) := by decide +kernel
theorem dX2_turnedAt_13 : decode cX2_turnedAt 13 = .ok (.aload_n 0, 1) := by decide +kernel
theorem dX2_turnedAt_14 : decode cX2_turnedAt 14 = .ok (.getfield 28, 3) := by decide +kernel
theorem dX2_turnedAt_17 : decode cX2_turnedAt 17 = .ok (.if_icmp .ge 13, 3) := by decide +kernel
theorem dX2_turnedAt_20 : decode cX2_turnedAt 20 = .ok (.iload_n 1, 1) := by decide +kernel
theorem dX2_turnedAt_21 : decode cX2_turnedAt 21 = .ok (.bipush 24, 2) := by decide +kernel
theorem dX2_turnedAt_23 : decode cX2_turnedAt 23 = .ok (.if_icmp .ge 7, 3) := by decide +kernel
theorem dX2_turnedAt_26 : decode cX2_turnedAt 26 = .ok (.iconst 1, 1) := by decide +kernel
theorem dX2_turnedAt_27 : decode cX2_turnedAt 27 = .ok (.goto 4, 3) := by decide +kernel
theorem dX2_turnedAt_30 : decode cX2_turnedAt 30 = .ok (.iconst 0, 1) := by decide +kernel
theorem dX2_turnedAt_31 : decode cX2_turnedAt 31 = .ok (.ireturn, 1) := by decide +kernel
theorem dX2_placeOf_0 : decode cX2_placeOf 0 = .ok (.iconst 0, 1) := by decide +kernel
theorem dX2_placeOf_1 : decode cX2_placeOf 1 = .ok (.istore_n 2, 1) := by decide +kernel
theorem dX2_placeOf_2 : decode cX2_placeOf 2 = .ok (.iload_n 2, 1) := by decide +kernel
theorem dX2_placeOf_3 : decode cX2_placeOf 3 = .ok (.aload_n 0, 1) := by decide +kernel
theorem dX2_placeOf_4 : decode cX2_placeOf 4 = .ok (.getfield 28, 3) := by decide +kernel
theorem dX2_placeOf_7 : decode cX2_placeOf 7 = .ok (.if_icmp .ge 27, 3) := by decide +kernel
theorem dX2_placeOf_10 : decode cX2_placeOf 10 = .ok (.iload_n 2, 1) := by decide +kernel
theorem dX2_placeOf_11 : decode cX2_placeOf 11 = .ok (.bipush 24, 2) := by decide +kernel
theorem dX2_placeOf_13 : decode cX2_placeOf 13 = .ok (.if_icmp .ge 21, 3) := by decide +kernel
theorem dX2_placeOf_16 : decode cX2_placeOf 16 = .ok (.aload_n 0, 1) := by decide +kernel
theorem dX2_placeOf_17 : decode cX2_placeOf 17 = .ok (.getfield 52, 3) := by decide +kernel
theorem dX2_placeOf_20 : decode cX2_placeOf 20 = .ok (.iload_n 2, 1) := by decide +kernel
theorem dX2_placeOf_21 : decode cX2_placeOf 21 = .ok (.iaload, 1) := by decide +kernel
theorem dX2_placeOf_22 : decode cX2_placeOf 22 = .ok (.iload_n 1, 1) := by decide +kernel
theorem dX2_placeOf_23 : decode cX2_placeOf 23 = .ok (.if_icmp .ne 5, 3) := by decide +kernel
theorem dX2_placeOf_26 : decode cX2_placeOf 26 = .ok (.iload_n 2, 1) := by decide +kernel
theorem dX2_placeOf_27 : decode cX2_placeOf 27 = .ok (.ireturn, 1) := by decide +kernel
theorem dX2_placeOf_28 : decode cX2_placeOf 28 = .ok (.iinc 2 1, 3) := by decide +kernel
theorem dX2_placeOf_31 : decode cX2_placeOf 31 = .ok (.goto (-29), 3) := by decide +kernel
theorem dX2_placeOf_34 : decode cX2_placeOf 34 = .ok (.iconst (-1), 1) := by decide +kernel
theorem dX2_placeOf_35 : decode cX2_placeOf 35 = .ok (.ireturn, 1) := by decide +kernel
theorem dX3_init_0 : decode cX3_init 0 = .ok (.aload_n 0, 1) := by decide +kernel
theorem dX3_init_1 : decode cX3_init 1 = .ok (.invokespecial 3, 3) := by decide +kernel
theorem dX3_init_4 : decode cX3_init 4 = .ok (.aload_n 0, 1) := by decide +kernel
theorem dX3_init_5 : decode cX3_init 5 = .ok (.iconst 0, 1) := by decide +kernel
theorem dX3_init_6 : decode cX3_init 6 = .ok (.putfield 9, 3) := by decide +kernel
theorem dX3_init_9 : decode cX3_init 9 = .ok (.aload_n 0, 1) := by decide +kernel
theorem dX3_init_10 : decode cX3_init 10 = .ok (.bipush 30, 2) := by decide +kernel
theorem dX3_init_12 : decode cX3_init 12 = .ok (.newarray .int, 2) := by decide +kernel
theorem dX3_init_14 : decode cX3_init 14 = .ok (.putfield 15, 3) := by decide +kernel
theorem dX3_init_17 : decode cX3_init 17 = .ok (.return_, 1) := by decide +kernel
theorem dX3_copyFrom_0 : decode cX3_copyFrom 0 = .ok (.aload_n 0, 1) := by decide +kernel
theorem dX3_copyFrom_1 : decode cX3_copyFrom 1 = .ok (.aload_n 1, 1) := by decide +kernel
theorem dX3_copyFrom_2 : decode cX3_copyFrom 2 = .ok (.getfield 9, 3) := by decide +kernel
theorem dX3_copyFrom_5 : decode cX3_copyFrom 5 = .ok (.putfield 9, 3) := by decide +kernel
theorem dX3_copyFrom_8 : decode cX3_copyFrom 8 = .ok (.aload_n 1, 1) := by decide +kernel
theorem dX3_copyFrom_9 : decode cX3_copyFrom 9 = .ok (.getfield 15, 3) := by decide +kernel
theorem dX3_copyFrom_12 : decode cX3_copyFrom 12 = .ok (.iconst 0, 1) := by decide +kernel
theorem dX3_copyFrom_13 : decode cX3_copyFrom 13 = .ok (.aload_n 0, 1) := by decide +kernel
theorem dX3_copyFrom_14 : decode cX3_copyFrom 14 = .ok (.getfield 15, 3) := by decide +kernel
theorem dX3_copyFrom_17 : decode cX3_copyFrom 17 = .ok (.iconst 0, 1) := by decide +kernel
theorem dX3_copyFrom_18 : decode cX3_copyFrom 18 = .ok (.bipush 30, 2) := by decide +kernel
theorem dX3_copyFrom_20 : decode cX3_copyFrom 20 = .ok (.invokestatic 19, 3) := by decide +kernel
theorem dX3_copyFrom_23 : decode cX3_copyFrom 23 = .ok (.return_, 1) := by decide +kernel
theorem dX3_clear_0 : decode cX3_clear 0 = .ok (.aload_n 0, 1) := by decide +kernel
theorem dX3_clear_1 : decode cX3_clear 1 = .ok (.iconst 0, 1) := by decide +kernel
theorem dX3_clear_2 : decode cX3_clear 2 = .ok (.putfield 9, 3) := by decide +kernel
theorem dX3_clear_5 : decode cX3_clear 5 = .ok (.aload_n 0, 1) := by decide +kernel
theorem dX3_clear_6 : decode cX3_clear 6 = .ok (.getfield 9, 3) := by decide +kernel
theorem dX3_clear_9 : decode cX3_clear 9 = .ok (.ireturn, 1) := by decide +kernel
theorem dX3_add_0 : decode cX3_add 0 = .ok (.aload_n 0, 1) := by decide +kernel
theorem dX3_add_1 : decode cX3_add 1 = .ok (.getfield 9, 3) := by decide +kernel
theorem dX3_add_4 : decode cX3_add 4 = .ok (.ifCond .lt 62, 3) := by decide +kernel
theorem dX3_add_7 : decode cX3_add 7 = .ok (.aload_n 0, 1) := by decide +kernel
theorem dX3_add_8 : decode cX3_add 8 = .ok (.getfield 9, 3) := by decide +kernel
theorem dX3_add_11 : decode cX3_add 11 = .ok (.bipush 10, 2) := by decide +kernel
theorem dX3_add_13 : decode cX3_add 13 = .ok (.if_icmp .ge 53, 3) := by decide +kernel
theorem dX3_add_16 : decode cX3_add 16 = .ok (.aload_n 0, 1) := by decide +kernel
theorem dX3_add_17 : decode cX3_add 17 = .ok (.getfield 15, 3) := by decide +kernel
theorem dX3_add_20 : decode cX3_add 20 = .ok (.aload_n 0, 1) := by decide +kernel
theorem dX3_add_21 : decode cX3_add 21 = .ok (.getfield 9, 3) := by decide +kernel
theorem dX3_add_24 : decode cX3_add 24 = .ok (.iconst 3, 1) := by decide +kernel
theorem dX3_add_25 : decode cX3_add 25 = .ok (.imul, 1) := by decide +kernel
theorem dX3_add_26 : decode cX3_add 26 = .ok (.iload_n 1, 1) := by decide +kernel
theorem dX3_add_27 : decode cX3_add 27 = .ok (.iastore, 1) := by decide +kernel
theorem dX3_add_28 : decode cX3_add 28 = .ok (.aload_n 0, 1) := by decide +kernel
theorem dX3_add_29 : decode cX3_add 29 = .ok (.getfield 15, 3) := by decide +kernel
theorem dX3_add_32 : decode cX3_add 32 = .ok (.aload_n 0, 1) := by decide +kernel
theorem dX3_add_33 : decode cX3_add 33 = .ok (.getfield 9, 3) := by decide +kernel
theorem dX3_add_36 : decode cX3_add 36 = .ok (.iconst 3, 1) := by decide +kernel
theorem dX3_add_37 : decode cX3_add 37 = .ok (.imul, 1) := by decide +kernel
theorem dX3_add_38 : decode cX3_add 38 = .ok (.iconst 1, 1) := by decide +kernel
theorem dX3_add_39 : decode cX3_add 39 = .ok (.iadd, 1) := by decide +kernel
theorem dX3_add_40 : decode cX3_add 40 = .ok (.iload_n 2, 1) := by decide +kernel
theorem dX3_add_41 : decode cX3_add 41 = .ok (.iastore, 1) := by decide +kernel
theorem dX3_add_42 : decode cX3_add 42 = .ok (.aload_n 0, 1) := by decide +kernel
theorem dX3_add_43 : decode cX3_add 43 = .ok (.getfield 15, 3) := by decide +kernel
theorem dX3_add_46 : decode cX3_add 46 = .ok (.aload_n 0, 1) := by decide +kernel
theorem dX3_add_47 : decode cX3_add 47 = .ok (.getfield 9, 3) := by decide +kernel
theorem dX3_add_50 : decode cX3_add 50 = .ok (.iconst 3, 1) := by decide +kernel
theorem dX3_add_51 : decode cX3_add 51 = .ok (.imul, 1) := by decide +kernel
theorem dX3_add_52 : decode cX3_add 52 = .ok (.iconst 2, 1) := by decide +kernel
theorem dX3_add_53 : decode cX3_add 53 = .ok (.iadd, 1) := by decide +kernel
theorem dX3_add_54 : decode cX3_add 54 = .ok (.iload_n 3, 1) := by decide +kernel
theorem dX3_add_55 : decode cX3_add 55 = .ok (.iastore, 1) := by decide +kernel
theorem dX3_add_56 : decode cX3_add 56 = .ok (.aload_n 0, 1) := by decide +kernel
theorem dX3_add_57 : decode cX3_add 57 = .ok (.dup, 1) := by decide +kernel
theorem dX3_add_58 : decode cX3_add 58 = .ok (.getfield 9, 3) := by decide +kernel
theorem dX3_add_61 : decode cX3_add 61 = .ok (.iconst 1, 1) := by decide +kernel
theorem dX3_add_62 : decode cX3_add 62 = .ok (.iadd, 1) := by decide +kernel
theorem dX3_add_63 : decode cX3_add 63 = .ok (.putfield 9, 3) := by decide +kernel
theorem dX3_add_66 : decode cX3_add 66 = .ok (.aload_n 0, 1) := by decide +kernel
theorem dX3_add_67 : decode cX3_add 67 = .ok (.getfield 9, 3) := by decide +kernel
theorem dX3_add_70 : decode cX3_add 70 = .ok (.ireturn, 1) := by decide +kernel
theorem dX3_number_0 : decode cX3_number 0 = .ok (.iload_n 1, 1) := by decide +kernel
theorem dX3_number_1 : decode cX3_number 1 = .ok (.ifCond .lt 30, 3) := by decide +kernel
theorem dX3_number_4 : decode cX3_number 4 = .ok (.iload_n 1, 1) := by decide +kernel
theorem dX3_number_5 : decode cX3_number 5 = .ok (.aload_n 0, 1) := by decide +kernel
theorem dX3_number_6 : decode cX3_number 6 = .ok (.getfield 9, 3) := by decide +kernel
theorem dX3_number_9 : decode cX3_number 9 = .ok (.if_icmp .ge 22, 3) := by decide +kernel
theorem dX3_number_12 : decode cX3_number 12 = .ok (.iload_n 1, 1) := by decide +kernel
theorem dX3_number_13 : decode cX3_number 13 = .ok (.bipush 10, 2) := by decide +kernel
theorem dX3_number_15 : decode cX3_number 15 = .ok (.if_icmp .ge 16, 3) := by decide +kernel
theorem dX3_number_18 : decode cX3_number 18 = .ok (.iload_n 2, 1) := by decide +kernel
theorem dX3_number_19 : decode cX3_number 19 = .ok (.ifCond .lt 12, 3) := by decide +kernel
theorem dX3_number_22 : decode cX3_number 22 = .ok (.iload_n 2, 1) := by decide +kernel
theorem dX3_number_23 : decode cX3_number 23 = .ok (.iconst 3, 1) := by decide +kernel
theorem dX3_number_24 : decode cX3_number 24 = .ok (.if_icmp .ge 7, 3) := by decide +kernel
theorem dX3_number_27 : decode cX3_number 27 = .ok (.iconst 1, 1) := by decide +kernel
theorem dX3_number_28 : decode cX3_number 28 = .ok (.goto 4, 3) := by decide +kernel
theorem dX3_number_31 : decode cX3_number 31 = .ok (.iconst 0, 1) := by decide +kernel
theorem dX3_number_32 : decode cX3_number 32 = .ok (.istore_n 3, 1) := by decide +kernel
theorem dX3_number_33 : decode cX3_number 33 = .ok (.iload_n 3, 1) := by decide +kernel
theorem dX3_number_34 : decode cX3_number 34 = .ok (.ifCond .eq 16, 3) := by decide +kernel
theorem dX3_number_37 : decode cX3_number 37 = .ok (.aload_n 0, 1) := by decide +kernel
theorem dX3_number_38 : decode cX3_number 38 = .ok (.getfield 15, 3) := by decide +kernel
theorem dX3_number_41 : decode cX3_number 41 = .ok (.iload_n 1, 1) := by decide +kernel
theorem dX3_number_42 : decode cX3_number 42 = .ok (.iconst 3, 1) := by decide +kernel
theorem dX3_number_43 : decode cX3_number 43 = .ok (.imul, 1) := by decide +kernel
theorem dX3_number_44 : decode cX3_number 44 = .ok (.iload_n 2, 1) := by decide +kernel
theorem dX3_number_45 : decode cX3_number 45 = .ok (.iadd, 1) := by decide +kernel
theorem dX3_number_46 : decode cX3_number 46 = .ok (.iaload, 1) := by decide +kernel
theorem dX3_number_47 : decode cX3_number 47 = .ok (.goto 5, 3) := by decide +kernel
theorem dX3_number_50 : decode cX3_number 50 = .ok (.bipush (-5), 2) := by decide +kernel
theorem dX3_number_52 : decode cX3_number 52 = .ok (.ireturn, 1) := by decide +kernel
theorem dX4_init_0 : decode cX4_init 0 = .ok (.aload_n 0, 1) := by decide +kernel
theorem dX4_init_1 : decode cX4_init 1 = .ok (.invokespecial 1, 3) := by decide +kernel
theorem dX4_init_4 : decode cX4_init 4 = .ok (.aload_n 0, 1) := by decide +kernel
theorem dX4_init_5 : decode cX4_init 5 = .ok (.new 7, 3) := by decide +kernel
theorem dX4_init_8 : decode cX4_init 8 = .ok (.dup, 1) := by decide +kernel
theorem dX4_init_9 : decode cX4_init 9 = .ok (.invokespecial 9, 3) := by decide +kernel
theorem dX4_init_12 : decode cX4_init 12 = .ok (.putfield 10, 3) := by decide +kernel
theorem dX4_init_15 : decode cX4_init 15 = .ok (.aload_n 0, 1) := by decide +kernel
theorem dX4_init_16 : decode cX4_init 16 = .ok (.new 16, 3) := by decide +kernel
theorem dX4_init_19 : decode cX4_init 19 = .ok (.dup, 1) := by decide +kernel
theorem dX4_init_20 : decode cX4_init 20 = .ok (.invokespecial 18, 3) := by decide +kernel
theorem dX4_init_23 : decode cX4_init 23 = .ok (.putfield 19, 3) := by decide +kernel
theorem dX4_init_26 : decode cX4_init 26 = .ok (.aload_n 0, 1) := by decide +kernel
theorem dX4_init_27 : decode cX4_init 27 = .ok (.new 23, 3) := by decide +kernel
theorem dX4_init_30 : decode cX4_init 30 = .ok (.dup, 1) := by decide +kernel
theorem dX4_init_31 : decode cX4_init 31 = .ok (.invokespecial 25, 3) := by decide +kernel
theorem dX4_init_34 : decode cX4_init 34 = .ok (.putfield 26, 3) := by decide +kernel
theorem dX4_init_37 : decode cX4_init 37 = .ok (.aload_n 0, 1) := by decide +kernel
theorem dX4_init_38 : decode cX4_init 38 = .ok (.new 23, 3) := by decide +kernel
theorem dX4_init_41 : decode cX4_init 41 = .ok (.dup, 1) := by decide +kernel
theorem dX4_init_42 : decode cX4_init 42 = .ok (.invokespecial 25, 3) := by decide +kernel
theorem dX4_init_45 : decode cX4_init 45 = .ok (.putfield 30, 3) := by decide +kernel
theorem dX4_init_48 : decode cX4_init 48 = .ok (.aload_n 0, 1) := by decide +kernel
theorem dX4_init_49 : decode cX4_init 49 = .ok (.new 23, 3) := by decide +kernel
theorem dX4_init_52 : decode cX4_init 52 = .ok (.dup, 1) := by decide +kernel
theorem dX4_init_53 : decode cX4_init 53 = .ok (.invokespecial 25, 3) := by decide +kernel
theorem dX4_init_56 : decode cX4_init 56 = .ok (.putfield 33, 3) := by decide +kernel
theorem dX4_init_59 : decode cX4_init 59 = .ok (.return_, 1) := by decide +kernel
theorem dX4_copyFrom_0 : decode cX4_copyFrom 0 = .ok (.aload_n 0, 1) := by decide +kernel
theorem dX4_copyFrom_1 : decode cX4_copyFrom 1 = .ok (.getfield 10, 3) := by decide +kernel
theorem dX4_copyFrom_4 : decode cX4_copyFrom 4 = .ok (.aload_n 1, 1) := by decide +kernel
theorem dX4_copyFrom_5 : decode cX4_copyFrom 5 = .ok (.getfield 10, 3) := by decide +kernel
theorem dX4_copyFrom_8 : decode cX4_copyFrom 8 = .ok (.invokevirtual 36, 3) := by decide +kernel
theorem dX4_copyFrom_11 : decode cX4_copyFrom 11 = .ok (.aload_n 0, 1) := by decide +kernel
theorem dX4_copyFrom_12 : decode cX4_copyFrom 12 = .ok (.getfield 19, 3) := by decide +kernel
theorem dX4_copyFrom_15 : decode cX4_copyFrom 15 = .ok (.aload_n 1, 1) := by decide +kernel
theorem dX4_copyFrom_16 : decode cX4_copyFrom 16 = .ok (.getfield 19, 3) := by decide +kernel
theorem dX4_copyFrom_19 : decode cX4_copyFrom 19 = .ok (.invokevirtual 40, 3) := by decide +kernel
theorem dX4_copyFrom_22 : decode cX4_copyFrom 22 = .ok (.aload_n 0, 1) := by decide +kernel
theorem dX4_copyFrom_23 : decode cX4_copyFrom 23 = .ok (.getfield 26, 3) := by decide +kernel
theorem dX4_copyFrom_26 : decode cX4_copyFrom 26 = .ok (.aload_n 1, 1) := by decide +kernel
theorem dX4_copyFrom_27 : decode cX4_copyFrom 27 = .ok (.getfield 26, 3) := by decide +kernel
theorem dX4_copyFrom_30 : decode cX4_copyFrom 30 = .ok (.invokevirtual 43, 3) := by decide +kernel
theorem dX4_copyFrom_33 : decode cX4_copyFrom 33 = .ok (.aload_n 0, 1) := by decide +kernel
theorem dX4_copyFrom_34 : decode cX4_copyFrom 34 = .ok (.getfield 30, 3) := by decide +kernel
theorem dX4_copyFrom_37 : decode cX4_copyFrom 37 = .ok (.aload_n 1, 1) := by decide +kernel
theorem dX4_copyFrom_38 : decode cX4_copyFrom 38 = .ok (.getfield 30, 3) := by decide +kernel
theorem dX4_copyFrom_41 : decode cX4_copyFrom 41 = .ok (.invokevirtual 43, 3) := by decide +kernel
theorem dX4_copyFrom_44 : decode cX4_copyFrom 44 = .ok (.aload_n 0, 1) := by decide +kernel
theorem dX4_copyFrom_45 : decode cX4_copyFrom 45 = .ok (.getfield 33, 3) := by decide +kernel
theorem dX4_copyFrom_48 : decode cX4_copyFrom 48 = .ok (.aload_n 1, 1) := by decide +kernel
theorem dX4_copyFrom_49 : decode cX4_copyFrom 49 = .ok (.getfield 33, 3) := by decide +kernel
theorem dX4_copyFrom_52 : decode cX4_copyFrom 52 = .ok (.invokevirtual 43, 3) := by decide +kernel
theorem dX4_copyFrom_55 : decode cX4_copyFrom 55 = .ok (.return_, 1) := by decide +kernel
theorem dX5_init_0 : decode cX5_init 0 = .ok (.aload_n 0, 1) := by decide +kernel
theorem dX5_init_1 : decode cX5_init 1 = .ok (.invokespecial 3, 3) := by decide +kernel
theorem dX5_init_4 : decode cX5_init 4 = .ok (.aload_n 0, 1) := by decide +kernel
theorem dX5_init_5 : decode cX5_init 5 = .ok (.bipush 6, 2) := by decide +kernel
theorem dX5_init_7 : decode cX5_init 7 = .ok (.newarray .int, 2) := by decide +kernel
theorem dX5_init_9 : decode cX5_init 9 = .ok (.putfield 9, 3) := by decide +kernel
theorem dX5_init_12 : decode cX5_init 12 = .ok (.aload_n 0, 1) := by decide +kernel
theorem dX5_init_13 : decode cX5_init 13 = .ok (.bipush 6, 2) := by decide +kernel
theorem dX5_init_15 : decode cX5_init 15 = .ok (.newarray .int, 2) := by decide +kernel
theorem dX5_init_17 : decode cX5_init 17 = .ok (.putfield 15, 3) := by decide +kernel
theorem dX5_init_20 : decode cX5_init 20 = .ok (.aload_n 0, 1) := by decide +kernel
theorem dX5_init_21 : decode cX5_init 21 = .ok (.sipush 360, 3) := by decide +kernel
theorem dX5_init_24 : decode cX5_init 24 = .ok (.newarray .long, 2) := by decide +kernel
theorem dX5_init_26 : decode cX5_init 26 = .ok (.putfield 18, 3) := by decide +kernel
theorem dX5_init_29 : decode cX5_init 29 = .ok (.aload_n 0, 1) := by decide +kernel
theorem dX5_init_30 : decode cX5_init 30 = .ok (.getfield 9, 3) := by decide +kernel
theorem dX5_init_33 : decode cX5_init 33 = .ok (.bipush (-5), 2) := by decide +kernel
theorem dX5_init_35 : decode cX5_init 35 = .ok (.invokestatic 22, 3) := by decide +kernel
theorem dX5_init_38 : decode cX5_init 38 = .ok (.return_, 1) := by decide +kernel
theorem dX5_sortOf_0 : decode cX5_sortOf 0 = .ok (.iload_n 1, 1) := by decide +kernel
theorem dX5_sortOf_1 : decode cX5_sortOf 1 = .ok (.invokestatic 28, 3) := by decide +kernel
theorem dX5_sortOf_4 : decode cX5_sortOf 4 = .ok (.ifCond .eq 12, 3) := by decide +kernel
theorem dX5_sortOf_7 : decode cX5_sortOf 7 = .ok (.aload_n 0, 1) := by decide +kernel
theorem dX5_sortOf_8 : decode cX5_sortOf 8 = .ok (.getfield 9, 3) := by decide +kernel
theorem dX5_sortOf_11 : decode cX5_sortOf 11 = .ok (.iload_n 1, 1) := by decide +kernel
theorem dX5_sortOf_12 : decode cX5_sortOf 12 = .ok (.iaload, 1) := by decide +kernel
theorem dX5_sortOf_13 : decode cX5_sortOf 13 = .ok (.goto 5, 3) := by decide +kernel
theorem dX5_sortOf_16 : decode cX5_sortOf 16 = .ok (.bipush (-5), 2) := by decide +kernel
theorem dX5_sortOf_18 : decode cX5_sortOf 18 = .ok (.ireturn, 1) := by decide +kernel
theorem dX5_isPlace_0 : decode cX5_isPlace 0 = .ok (.iload_n 1, 1) := by decide +kernel
theorem dX5_isPlace_1 : decode cX5_isPlace 1 = .ok (.invokestatic 28, 3) := by decide +kernel
theorem dX5_isPlace_4 : decode cX5_isPlace 4 = .ok (.ifCond .eq 21, 3) := by decide +kernel
theorem dX5_isPlace_7 : decode cX5_isPlace 7 = .ok (.iload_n 2, 1) := by decide +kernel
theorem dX5_isPlace_8 : decode cX5_isPlace 8 = .ok (.ifCond .lt 17, 3) := by decide +kernel
theorem dX5_isPlace_11 : decode cX5_isPlace 11 = .ok (.iload_n 2, 1) := by decide +kernel
theorem dX5_isPlace_12 : decode cX5_isPlace 12 = .ok (.aload_n 0, 1) := by decide +kernel
theorem dX5_isPlace_13 : decode cX5_isPlace 13 = .ok (.getfield 15, 3) := by decide +kernel
theorem dX5_isPlace_16 : decode cX5_isPlace 16 = .ok (.iload_n 1, 1) := by decide +kernel
theorem dX5_isPlace_17 : decode cX5_isPlace 17 = .ok (.iaload, 1) := by decide +kernel
theorem dX5_isPlace_18 : decode cX5_isPlace 18 = .ok (.if_icmp .ge 7, 3) := by decide +kernel
theorem dX5_isPlace_21 : decode cX5_isPlace 21 = .ok (.iconst 1, 1) := by decide +kernel
theorem dX5_isPlace_22 : decode cX5_isPlace 22 = .ok (.goto 4, 3) := by decide +kernel
theorem dX5_isPlace_25 : decode cX5_isPlace 25 = .ok (.iconst 0, 1) := by decide +kernel
theorem dX5_isPlace_26 : decode cX5_isPlace 26 = .ok (.ireturn, 1) := by decide +kernel
theorem dX5_isSpan_0 : decode cX5_isSpan 0 = .ok (.iload_n 1, 1) := by decide +kernel
theorem dX5_isSpan_1 : decode cX5_isSpan 1 = .ok (.invokestatic 28, 3) := by decide +kernel
theorem dX5_isSpan_4 : decode cX5_isSpan 4 = .ok (.ifCond .eq 37, 3) := by decide +kernel
theorem dX5_isSpan_7 : decode cX5_isSpan 7 = .ok (.iload_n 3, 1) := by decide +kernel
theorem dX5_isSpan_8 : decode cX5_isSpan 8 = .ok (.ifCond .lt 33, 3) := by decide +kernel
theorem dX5_isSpan_11 : decode cX5_isSpan 11 = .ok (.iload_n 2, 1) := by decide +kernel
theorem dX5_isSpan_12 : decode cX5_isSpan 12 = .ok (.ifCond .lt 29, 3) := by decide +kernel
theorem dX5_isSpan_15 : decode cX5_isSpan 15 = .ok (.iload_n 2, 1) := by decide +kernel
theorem dX5_isSpan_16 : decode cX5_isSpan 16 = .ok (.aload_n 0, 1) := by decide +kernel
theorem dX5_isSpan_17 : decode cX5_isSpan 17 = .ok (.getfield 15, 3) := by decide +kernel
theorem dX5_isSpan_20 : decode cX5_isSpan 20 = .ok (.iload_n 1, 1) := by decide +kernel
theorem dX5_isSpan_21 : decode cX5_isSpan 21 = .ok (.iaload, 1) := by decide +kernel
theorem dX5_isSpan_22 : decode cX5_isSpan 22 = .ok (.if_icmp .gt 19, 3) := by decide +kernel
theorem dX5_isSpan_25 : decode cX5_isSpan 25 = .ok (.iload_n 3, 1) := by decide +kernel
theorem dX5_isSpan_26 : decode cX5_isSpan 26 = .ok (.aload_n 0, 1) := by decide +kernel
theorem dX5_isSpan_27 : decode cX5_isSpan 27 = .ok (.getfield 15, 3) := by decide +kernel
theorem dX5_isSpan_30 : decode cX5_isSpan 30 = .ok (.iload_n 1, 1) := by decide +kernel
theorem dX5_isSpan_31 : decode cX5_isSpan 31 = .ok (.iaload, 1) := by decide +kernel
theorem dX5_isSpan_32 : decode cX5_isSpan 32 = .ok (.iload_n 2, 1) := by decide +kernel
theorem dX5_isSpan_33 : decode cX5_isSpan 33 = .ok (.isub, 1) := by decide +kernel
theorem dX5_isSpan_34 : decode cX5_isSpan 34 = .ok (.if_icmp .gt 7, 3) := by decide +kernel
theorem dX5_isSpan_37 : decode cX5_isSpan 37 = .ok (.iconst 1, 1) := by decide +kernel
theorem dX5_isSpan_38 : decode cX5_isSpan 38 = .ok (.goto 4, 3) := by decide +kernel
theorem dX5_isSpan_41 : decode cX5_isSpan 41 = .ok (.iconst 0, 1) := by decide +kernel
theorem dX5_isSpan_42 : decode cX5_isSpan 42 = .ok (.ireturn, 1) := by decide +kernel
theorem dX5_lay_0 : decode cX5_lay 0 = .ok (.iload_n 1, 1) := by decide +kernel
theorem dX5_lay_1 : decode cX5_lay 1 = .ok (.invokestatic 28, 3) := by decide +kernel
theorem dX5_lay_4 : decode cX5_lay 4 = .ok (.ifCond .eq 45, 3) := by decide +kernel
theorem dX5_lay_7 : decode cX5_lay 7 = .ok (.iload_n 3, 1) := by decide +kernel
theorem dX5_lay_8 : decode cX5_lay 8 = .ok (.ifCond .lt 41, 3) := by decide +kernel
theorem dX5_lay_11 : decode cX5_lay 11 = .ok (.iload_n 3, 1) := by decide +kernel
theorem dX5_lay_12 : decode cX5_lay 12 = .ok (.bipush 60, 2) := by decide +kernel
theorem dX5_lay_14 : decode cX5_lay 14 = .ok (.if_icmp .gt 35, 3) := by decide +kernel
theorem dX5_lay_17 : decode cX5_lay 17 = .ok (.aload_n 0, 1) := by decide +kernel
theorem dX5_lay_18 : decode cX5_lay 18 = .ok (.getfield 9, 3) := by decide +kernel
theorem dX5_lay_21 : decode cX5_lay 21 = .ok (.iload_n 1, 1) := by decide +kernel
theorem dX5_lay_22 : decode cX5_lay 22 = .ok (.iload_n 2, 1) := by decide +kernel
theorem dX5_lay_23 : decode cX5_lay 23 = .ok (.iastore, 1) := by decide +kernel
theorem dX5_lay_24 : decode cX5_lay 24 = .ok (.aload_n 0, 1) := by decide +kernel
theorem dX5_lay_25 : decode cX5_lay 25 = .ok (.getfield 15, 3) := by decide +kernel
theorem dX5_lay_28 : decode cX5_lay 28 = .ok (.iload_n 1, 1) := by decide +kernel
theorem dX5_lay_29 : decode cX5_lay 29 = .ok (.iload_n 3, 1) := by decide +kernel
theorem dX5_lay_30 : decode cX5_lay 30 = .ok (.iastore, 1) := by decide +kernel
theorem dX5_lay_31 : decode cX5_lay 31 = .ok (.aload_n 0, 1) := by decide +kernel
theorem dX5_lay_32 : decode cX5_lay 32 = .ok (.getfield 18, 3) := by decide +kernel
theorem dX5_lay_35 : decode cX5_lay 35 = .ok (.iload_n 1, 1) := by decide +kernel
theorem dX5_lay_36 : decode cX5_lay 36 = .ok (.bipush 60, 2) := by decide +kernel
theorem dX5_lay_38 : decode cX5_lay 38 = .ok (.imul, 1) := by decide +kernel
theorem dX5_lay_39 : decode cX5_lay 39 = .ok (.iload_n 1, 1) := by decide +kernel
theorem dX5_lay_40 : decode cX5_lay 40 = .ok (.bipush 60, 2) := by decide +kernel
theorem dX5_lay_42 : decode cX5_lay 42 = .ok (.imul, 1) := by decide +kernel
theorem dX5_lay_43 : decode cX5_lay 43 = .ok (.iload_n 3, 1) := by decide +kernel
theorem dX5_lay_44 : decode cX5_lay 44 = .ok (.iadd, 1) := by decide +kernel
theorem dX5_lay_45 : decode cX5_lay 45 = .ok (.lconst 0, 1) := by decide +kernel
theorem dX5_lay_46 : decode cX5_lay 46 = .ok (.invokestatic 32, 3) := by decide +kernel
theorem dX5_lay_49 : decode cX5_lay 49 = .ok (.return_, 1) := by decide +kernel
theorem dX5_itemAt_0 : decode cX5_itemAt 0 = .ok (.aload_n 0, 1) := by decide +kernel
theorem dX5_itemAt_1 : decode cX5_itemAt 1 = .ok (.iload_n 1, 1) := by decide +kernel
theorem dX5_itemAt_2 : decode cX5_itemAt 2 = .ok (.iload_n 2, 1) := by decide +kernel
theorem dX5_itemAt_3 : decode cX5_itemAt 3 = .ok (.invokevirtual 35, 3) := by decide +kernel
theorem dX5_itemAt_6 : decode cX5_itemAt 6 = .ok (.ifCond .eq 17, 3) := by decide +kernel
theorem dX5_itemAt_9 : decode cX5_itemAt 9 = .ok (.aload_n 0, 1) := by decide +kernel
theorem dX5_itemAt_10 : decode cX5_itemAt 10 = .ok (.getfield 18, 3) := by decide +kernel
theorem dX5_itemAt_13 : decode cX5_itemAt 13 = .ok (.iload_n 1, 1) := by decide +kernel
theorem dX5_itemAt_14 : decode cX5_itemAt 14 = .ok (.bipush 60, 2) := by decide +kernel
theorem dX5_itemAt_16 : decode cX5_itemAt 16 = .ok (.imul, 1) := by decide +kernel
theorem dX5_itemAt_17 : decode cX5_itemAt 17 = .ok (.iload_n 2, 1) := by decide +kernel
theorem dX5_itemAt_18 : decode cX5_itemAt 18 = .ok (.iadd, 1) := by decide +kernel
theorem dX5_itemAt_19 : decode cX5_itemAt 19 = .ok (.laload, 1) := by decide +kernel
theorem dX5_itemAt_20 : decode cX5_itemAt 20 = .ok (.goto 4, 3) := by decide +kernel
theorem dX5_itemAt_23 : decode cX5_itemAt 23 = .ok (.lconst 0, 1) := by decide +kernel
theorem dX5_itemAt_24 : decode cX5_itemAt 24 = .ok (.lreturn, 1) := by decide +kernel
theorem dX5_write_0 : decode cX5_write 0 = .ok (.aload_n 0, 1) := by decide +kernel
theorem dX5_write_1 : decode cX5_write 1 = .ok (.iload_n 1, 1) := by decide +kernel
theorem dX5_write_2 : decode cX5_write 2 = .ok (.iload_n 2, 1) := by decide +kernel
theorem dX5_write_3 : decode cX5_write 3 = .ok (.invokevirtual 35, 3) := by decide +kernel
theorem dX5_write_6 : decode cX5_write 6 = .ok (.ifCond .eq 24, 3) := by decide +kernel
theorem dX5_write_9 : decode cX5_write 9 = .ok (.aload_n 0, 1) := by decide +kernel
theorem dX5_write_10 : decode cX5_write 10 = .ok (.getfield 18, 3) := by decide +kernel
theorem dX5_write_13 : decode cX5_write 13 = .ok (.iload_n 1, 1) := by decide +kernel
theorem dX5_write_14 : decode cX5_write 14 = .ok (.bipush 60, 2) := by decide +kernel
theorem dX5_write_16 : decode cX5_write 16 = .ok (.imul, 1) := by decide +kernel
theorem dX5_write_17 : decode cX5_write 17 = .ok (.iload_n 2, 1) := by decide +kernel
theorem dX5_write_18 : decode cX5_write 18 = .ok (.iadd, 1) := by decide +kernel
theorem dX5_write_19 : decode cX5_write 19 = .ok (.aload_n 0, 1) := by decide +kernel
theorem dX5_write_20 : decode cX5_write 20 = .ok (.getfield 9, 3) := by decide +kernel
theorem dX5_write_23 : decode cX5_write 23 = .ok (.iload_n 1, 1) := by decide +kernel
theorem dX5_write_24 : decode cX5_write 24 = .ok (.iaload, 1) := by decide +kernel
theorem dX5_write_25 : decode cX5_write 25 = .ok (.lload_n 3, 1) := by decide +kernel
theorem dX5_write_26 : decode cX5_write 26 = .ok (.invokestatic 39, 3) := by decide +kernel
theorem dX5_write_29 : decode cX5_write 29 = .ok (.lastore, 1) := by decide +kernel
theorem dX5_write_30 : decode cX5_write 30 = .ok (.return_, 1) := by decide +kernel
theorem dX5_move_0 : decode cX5_move 0 = .ok (.aload_n 0, 1) := by decide +kernel
theorem dX5_move_1 : decode cX5_move 1 = .ok (.iload_n 1, 1) := by decide +kernel
theorem dX5_move_2 : decode cX5_move 2 = .ok (.iload_n 2, 1) := by decide +kernel
theorem dX5_move_3 : decode cX5_move 3 = .ok (.iload 5, 2) := by decide +kernel
theorem dX5_move_5 : decode cX5_move 5 = .ok (.invokevirtual 43, 3) := by decide +kernel
theorem dX5_move_8 : decode cX5_move 8 = .ok (.ifCond .eq 41, 3) := by decide +kernel
theorem dX5_move_11 : decode cX5_move 11 = .ok (.aload_n 0, 1) := by decide +kernel
theorem dX5_move_12 : decode cX5_move 12 = .ok (.iload_n 3, 1) := by decide +kernel
theorem dX5_move_13 : decode cX5_move 13 = .ok (.iload 4, 2) := by decide +kernel
theorem dX5_move_15 : decode cX5_move 15 = .ok (.iload 5, 2) := by decide +kernel
theorem dX5_move_17 : decode cX5_move 17 = .ok (.invokevirtual 43, 3) := by decide +kernel
theorem dX5_move_20 : decode cX5_move 20 = .ok (.ifCond .eq 29, 3) := by decide +kernel
theorem dX5_move_23 : decode cX5_move 23 = .ok (.aload_n 0, 1) := by decide +kernel
theorem dX5_move_24 : decode cX5_move 24 = .ok (.getfield 18, 3) := by decide +kernel
theorem dX5_move_27 : decode cX5_move 27 = .ok (.iload_n 1, 1) := by decide +kernel
theorem dX5_move_28 : decode cX5_move 28 = .ok (.bipush 60, 2) := by decide +kernel
theorem dX5_move_30 : decode cX5_move 30 = .ok (.imul, 1) := by decide +kernel
theorem dX5_move_31 : decode cX5_move 31 = .ok (.iload_n 2, 1) := by decide +kernel
theorem dX5_move_32 : decode cX5_move 32 = .ok (.iadd, 1) := by decide +kernel
theorem dX5_move_33 : decode cX5_move 33 = .ok (.aload_n 0, 1) := by decide +kernel
theorem dX5_move_34 : decode cX5_move 34 = .ok (.getfield 18, 3) := by decide +kernel
theorem dX5_move_37 : decode cX5_move 37 = .ok (.iload_n 3, 1) := by decide +kernel
theorem dX5_move_38 : decode cX5_move 38 = .ok (.bipush 60, 2) := by decide +kernel
theorem dX5_move_40 : decode cX5_move 40 = .ok (.imul, 1) := by decide +kernel
theorem dX5_move_41 : decode cX5_move 41 = .ok (.iload 4, 2) := by decide +kernel
theorem dX5_move_43 : decode cX5_move 43 = .ok (.iadd, 1) := by decide +kernel
theorem dX5_move_44 : decode cX5_move 44 = .ok (.iload 5, 2) := by decide +kernel
theorem dX5_move_46 : decode cX5_move 46 = .ok (.invokestatic 47, 3) := by decide +kernel
theorem dX5_move_49 : decode cX5_move 49 = .ok (.return_, 1) := by decide +kernel
theorem dX5_cutDown_0 : decode cX5_cutDown 0 = .ok (.iload_n 0, 1) := by decide +kernel
theorem dX5_cutDown_1 : decode cX5_cutDown 1 = .ok (.tableswitch 47 0 3 #[31, 36, 41, 45], 31) := by decide +kernel
theorem dX5_cutDown_32 : decode cX5_cutDown 32 = .ok (.lload_n 1, 1) := by decide +kernel
theorem dX5_cutDown_33 : decode cX5_cutDown 33 = .ok (.l2i, 1) := by decide +kernel
theorem dX5_cutDown_34 : decode cX5_cutDown 34 = .ok (.i2b, 1) := by decide +kernel
theorem dX5_cutDown_35 : decode cX5_cutDown 35 = .ok (.i2l, 1) := by decide +kernel
theorem dX5_cutDown_36 : decode cX5_cutDown 36 = .ok (.lreturn, 1) := by decide +kernel
theorem dX5_cutDown_37 : decode cX5_cutDown 37 = .ok (.lload_n 1, 1) := by decide +kernel
theorem dX5_cutDown_38 : decode cX5_cutDown 38 = .ok (.l2i, 1) := by decide +kernel
theorem dX5_cutDown_39 : decode cX5_cutDown 39 = .ok (.i2s, 1) := by decide +kernel
theorem dX5_cutDown_40 : decode cX5_cutDown 40 = .ok (.i2l, 1) := by decide +kernel
theorem dX5_cutDown_41 : decode cX5_cutDown 41 = .ok (.lreturn, 1) := by decide +kernel
theorem dX5_cutDown_42 : decode cX5_cutDown 42 = .ok (.lload_n 1, 1) := by decide +kernel
theorem dX5_cutDown_43 : decode cX5_cutDown 43 = .ok (.l2i, 1) := by decide +kernel
theorem dX5_cutDown_44 : decode cX5_cutDown 44 = .ok (.i2l, 1) := by decide +kernel
theorem dX5_cutDown_45 : decode cX5_cutDown 45 = .ok (.lreturn, 1) := by decide +kernel
theorem dX5_cutDown_46 : decode cX5_cutDown 46 = .ok (.lload_n 1, 1) := by decide +kernel
theorem dX5_cutDown_47 : decode cX5_cutDown 47 = .ok (.lreturn, 1) := by decide +kernel
theorem dX5_cutDown_48 : decode cX5_cutDown 48 = .ok (.lload_n 1, 1) := by decide +kernel
theorem dX5_cutDown_49 : decode cX5_cutDown 49 = .ok (.lconst 0, 1) := by decide +kernel
theorem dX5_cutDown_50 : decode cX5_cutDown 50 = .ok (.lcmp, 1) := by decide +kernel
theorem dX5_cutDown_51 : decode cX5_cutDown 51 = .ok (.ifCond .eq 7, 3) := by decide +kernel
theorem dX5_cutDown_54 : decode cX5_cutDown 54 = .ok (.lconst 1, 1) := by decide +kernel
theorem dX5_cutDown_55 : decode cX5_cutDown 55 = .ok (.goto 4, 3) := by decide +kernel
theorem dX5_cutDown_58 : decode cX5_cutDown 58 = .ok (.lconst 0, 1) := by decide +kernel
theorem dX5_cutDown_59 : decode cX5_cutDown 59 = .ok (.lreturn, 1) := by decide +kernel
theorem dX6_init_0 : decode cX6_init 0 = .ok (.aload_n 0, 1) := by decide +kernel
theorem dX6_init_1 : decode cX6_init 1 = .ok (.invokespecial 3, 3) := by decide +kernel
theorem dX6_init_4 : decode cX6_init 4 = .ok (.aload_n 0, 1) := by decide +kernel
theorem dX6_init_5 : decode cX6_init 5 = .ok (.iconst 0, 1) := by decide +kernel
theorem dX6_init_6 : decode cX6_init 6 = .ok (.putfield 9, 3) := by decide +kernel
theorem dX6_init_9 : decode cX6_init 9 = .ok (.aload_n 0, 1) := by decide +kernel
theorem dX6_init_10 : decode cX6_init 10 = .ok (.iconst 0, 1) := by decide +kernel
theorem dX6_init_11 : decode cX6_init 11 = .ok (.putfield 15, 3) := by decide +kernel
theorem dX6_init_14 : decode cX6_init 14 = .ok (.aload_n 0, 1) := by decide +kernel
theorem dX6_init_15 : decode cX6_init 15 = .ok (.bipush (-5), 2) := by decide +kernel
theorem dX6_init_17 : decode cX6_init 17 = .ok (.putfield 18, 3) := by decide +kernel
theorem dX6_init_20 : decode cX6_init 20 = .ok (.aload_n 0, 1) := by decide +kernel
theorem dX6_init_21 : decode cX6_init 21 = .ok (.bipush 100, 2) := by decide +kernel
theorem dX6_init_23 : decode cX6_init 23 = .ok (.newarray .int, 2) := by decide +kernel
theorem dX6_init_25 : decode cX6_init 25 = .ok (.putfield 21, 3) := by decide +kernel
theorem dX6_init_28 : decode cX6_init 28 = .ok (.aload_n 0, 1) := by decide +kernel
theorem dX6_init_29 : decode cX6_init 29 = .ok (.bipush 6, 2) := by decide +kernel
theorem dX6_init_31 : decode cX6_init 31 = .ok (.newarray .int, 2) := by decide +kernel
theorem dX6_init_33 : decode cX6_init 33 = .ok (.putfield 25, 3) := by decide +kernel
theorem dX6_init_36 : decode cX6_init 36 = .ok (.aload_n 0, 1) := by decide +kernel
theorem dX6_init_37 : decode cX6_init 37 = .ok (.bipush 6, 2) := by decide +kernel
theorem dX6_init_39 : decode cX6_init 39 = .ok (.newarray .int, 2) := by decide +kernel
theorem dX6_init_41 : decode cX6_init 41 = .ok (.putfield 28, 3) := by decide +kernel
theorem dX6_init_44 : decode cX6_init 44 = .ok (.aload_n 0, 1) := by decide +kernel
theorem dX6_init_45 : decode cX6_init 45 = .ok (.bipush 6, 2) := by decide +kernel
theorem dX6_init_47 : decode cX6_init 47 = .ok (.newarray .int, 2) := by decide +kernel
theorem dX6_init_49 : decode cX6_init 49 = .ok (.putfield 31, 3) := by decide +kernel
theorem dX6_init_52 : decode cX6_init 52 = .ok (.aload_n 0, 1) := by decide +kernel
theorem dX6_init_53 : decode cX6_init 53 = .ok (.iconst 0, 1) := by decide +kernel
theorem dX6_init_54 : decode cX6_init 54 = .ok (.putfield 34, 3) := by decide +kernel
theorem dX6_init_57 : decode cX6_init 57 = .ok (.aload_n 0, 1) := by decide +kernel
theorem dX6_init_58 : decode cX6_init 58 = .ok (.iconst 1, 1) := by decide +kernel
theorem dX6_init_59 : decode cX6_init 59 = .ok (.putfield 37, 3) := by decide +kernel
theorem dX6_init_62 : decode cX6_init 62 = .ok (.return_, 1) := by decide +kernel
theorem dX6_append_0 : decode cX6_append 0 = .ok (.aload_n 0, 1) := by decide +kernel
theorem dX6_append_1 : decode cX6_append 1 = .ok (.getfield 9, 3) := by decide +kernel
theorem dX6_append_4 : decode cX6_append 4 = .ok (.ifCond .lt 12, 3) := by decide +kernel
theorem dX6_append_7 : decode cX6_append 7 = .ok (.aload_n 0, 1) := by decide +kernel
theorem dX6_append_8 : decode cX6_append 8 = .ok (.getfield 9, 3) := by decide +kernel
theorem dX6_append_11 : decode cX6_append 11 = .ok (.bipush 100, 2) := by decide +kernel
theorem dX6_append_13 : decode cX6_append 13 = .ok (.if_icmp .lt 5, 3) := by decide +kernel
theorem dX6_append_16 : decode cX6_append 16 = .ok (.iconst 0, 1) := by decide +kernel
theorem dX6_append_17 : decode cX6_append 17 = .ok (.ireturn, 1) := by decide +kernel
theorem dX6_append_18 : decode cX6_append 18 = .ok (.aload_n 0, 1) := by decide +kernel
theorem dX6_append_19 : decode cX6_append 19 = .ok (.getfield 21, 3) := by decide +kernel
theorem dX6_append_22 : decode cX6_append 22 = .ok (.aload_n 0, 1) := by decide +kernel
theorem dX6_append_23 : decode cX6_append 23 = .ok (.getfield 9, 3) := by decide +kernel
theorem dX6_append_26 : decode cX6_append 26 = .ok (.iload_n 1, 1) := by decide +kernel
theorem dX6_append_27 : decode cX6_append 27 = .ok (.iastore, 1) := by decide +kernel
theorem dX6_append_28 : decode cX6_append 28 = .ok (.aload_n 0, 1) := by decide +kernel
theorem dX6_append_29 : decode cX6_append 29 = .ok (.dup, 1) := by decide +kernel
theorem dX6_append_30 : decode cX6_append 30 = .ok (.getfield 9, 3) := by decide +kernel
theorem dX6_append_33 : decode cX6_append 33 = .ok (.iconst 1, 1) := by decide +kernel
theorem dX6_append_34 : decode cX6_append 34 = .ok (.iadd, 1) := by decide +kernel
theorem dX6_append_35 : decode cX6_append 35 = .ok (.putfield 9, 3) := by decide +kernel
theorem dX6_append_38 : decode cX6_append 38 = .ok (.iconst 1, 1) := by decide +kernel
theorem dX6_append_39 : decode cX6_append 39 = .ok (.ireturn, 1) := by decide +kernel
theorem dX6_readInto_0 : decode cX6_readInto 0 = .ok (.aload_n 0, 1) := by decide +kernel
theorem dX6_readInto_1 : decode cX6_readInto 1 = .ok (.iconst 0, 1) := by decide +kernel
theorem dX6_readInto_2 : decode cX6_readInto 2 = .ok (.putfield 15, 3) := by decide +kernel
theorem dX6_readInto_5 : decode cX6_readInto 5 = .ok (.aload_n 0, 1) := by decide +kernel
theorem dX6_readInto_6 : decode cX6_readInto 6 = .ok (.iconst 0, 1) := by decide +kernel
theorem dX6_readInto_7 : decode cX6_readInto 7 = .ok (.putfield 34, 3) := by decide +kernel
theorem dX6_readInto_10 : decode cX6_readInto 10 = .ok (.aload_n 0, 1) := by decide +kernel
theorem dX6_readInto_11 : decode cX6_readInto 11 = .ok (.iconst 1, 1) := by decide +kernel
theorem dX6_readInto_12 : decode cX6_readInto 12 = .ok (.putfield 37, 3) := by decide +kernel
theorem dX6_readInto_15 : decode cX6_readInto 15 = .ok (.iconst 0, 1) := by decide +kernel
theorem dX6_readInto_16 : decode cX6_readInto 16 = .ok (.istore_n 3, 1) := by decide +kernel
theorem dX6_readInto_17 : decode cX6_readInto 17 = .ok (.iload_n 3, 1) := by decide +kernel
theorem dX6_readInto_18 : decode cX6_readInto 18 = .ok (.aload_n 0, 1) := by decide +kernel
theorem dX6_readInto_19 : decode cX6_readInto 19 = .ok (.getfield 9, 3) := by decide +kernel
theorem dX6_readInto_22 : decode cX6_readInto 22 = .ok (.if_icmp .ge 32, 3) := by decide +kernel
theorem dX6_readInto_25 : decode cX6_readInto 25 = .ok (.iload_n 3, 1) := by decide +kernel
theorem dX6_readInto_26 : decode cX6_readInto 26 = .ok (.bipush 100, 2) := by decide +kernel
theorem dX6_readInto_28 : decode cX6_readInto 28 = .ok (.if_icmp .ge 26, 3) := by decide +kernel
theorem dX6_readInto_31 : decode cX6_readInto 31 = .ok (.aload_n 0, 1) := by decide +kernel
theorem dX6_readInto_32 : decode cX6_readInto 32 = .ok (.aload_n 0, 1) := by decide +kernel
theorem dX6_readInto_33 : decode cX6_readInto 33 = .ok (.getfield 21, 3) := by decide +kernel
theorem dX6_readInto_36 : decode cX6_readInto 36 = .ok (.iload_n 3, 1) := by decide +kernel
theorem dX6_readInto_37 : decode cX6_readInto 37 = .ok (.iaload, 1) := by decide +kernel
theorem dX6_readInto_38 : decode cX6_readInto 38 = .ok (.aload_n 1, 1) := by decide +kernel
theorem dX6_readInto_39 : decode cX6_readInto 39 = .ok (.iload_n 2, 1) := by decide +kernel
theorem dX6_readInto_40 : decode cX6_readInto 40 = .ok (.invokevirtual 41, 3) := by decide +kernel
theorem dX6_readInto_43 : decode cX6_readInto 43 = .ok (.ifCond .ne 5, 3) := by decide +kernel
theorem dX6_readInto_46 : decode cX6_readInto 46 = .ok (.iload_n 3, 1) := by decide +kernel
theorem dX6_readInto_47 : decode cX6_readInto 47 = .ok (.ireturn, 1) := by decide +kernel
theorem dX6_readInto_48 : decode cX6_readInto 48 = .ok (.iinc 3 1, 3) := by decide +kernel
theorem dX6_readInto_51 : decode cX6_readInto 51 = .ok (.goto (-34), 3) := by decide +kernel
theorem dX6_readInto_54 : decode cX6_readInto 54 = .ok (.aload_n 0, 1) := by decide +kernel
theorem dX6_readInto_55 : decode cX6_readInto 55 = .ok (.getfield 34, 3) := by decide +kernel
theorem dX6_readInto_58 : decode cX6_readInto 58 = .ok (.ifCond .ne 14, 3) := by decide +kernel
theorem dX6_readInto_61 : decode cX6_readInto 61 = .ok (.aload_n 0, 1) := by decide +kernel
theorem dX6_readInto_62 : decode cX6_readInto 62 = .ok (.getfield 37, 3) := by decide +kernel
theorem dX6_readInto_65 : decode cX6_readInto 65 = .ok (.ifCond .ne 7, 3) := by decide +kernel
theorem dX6_readInto_68 : decode cX6_readInto 68 = .ok (.iconst (-1), 1) := by decide +kernel
theorem dX6_readInto_69 : decode cX6_readInto 69 = .ok (.goto 7, 3) := by decide +kernel
theorem dX6_readInto_72 : decode cX6_readInto 72 = .ok (.aload_n 0, 1) := by decide +kernel
theorem dX6_readInto_73 : decode cX6_readInto 73 = .ok (.getfield 9, 3) := by decide +kernel
theorem dX6_readInto_76 : decode cX6_readInto 76 = .ok (.ireturn, 1) := by decide +kernel
theorem dX6_take_0 : decode cX6_take 0 = .ok (.aload_n 0, 1) := by decide +kernel
theorem dX6_take_1 : decode cX6_take 1 = .ok (.getfield 37, 3) := by decide +kernel
theorem dX6_take_4 : decode cX6_take 4 = .ok (.ifCond .ne 9, 3) := by decide +kernel
theorem dX6_take_7 : decode cX6_take 7 = .ok (.aload_n 0, 1) := by decide +kernel
theorem dX6_take_8 : decode cX6_take 8 = .ok (.iload_n 1, 1) := by decide +kernel
theorem dX6_take_9 : decode cX6_take 9 = .ok (.invokevirtual 45, 3) := by decide +kernel
theorem dX6_take_12 : decode cX6_take 12 = .ok (.ireturn, 1) := by decide +kernel
theorem dX6_take_13 : decode cX6_take 13 = .ok (.iload_n 1, 1) := by decide +kernel
theorem dX6_take_14 : decode cX6_take 14 = .ok (.bipush 93, 2) := by decide +kernel
theorem dX6_take_16 : decode cX6_take 16 = .ok (.if_icmp .ne 15, 3) := by decide +kernel
theorem dX6_take_19 : decode cX6_take 19 = .ok (.aload_n 0, 1) := by decide +kernel
theorem dX6_take_20 : decode cX6_take 20 = .ok (.invokevirtual 49, 3) := by decide +kernel
theorem dX6_take_23 : decode cX6_take 23 = .ok (.ifCond .eq 8, 3) := by decide +kernel
theorem dX6_take_26 : decode cX6_take 26 = .ok (.aload_n 0, 1) := by decide +kernel
theorem dX6_take_27 : decode cX6_take 27 = .ok (.invokevirtual 53, 3) := by decide +kernel
theorem dX6_take_30 : decode cX6_take 30 = .ok (.ireturn, 1) := by decide +kernel
theorem dX6_take_31 : decode cX6_take 31 = .ok (.iload_n 1, 1) := by decide +kernel
theorem dX6_take_32 : decode cX6_take 32 = .ok (.bipush 40, 2) := by decide +kernel
theorem dX6_take_34 : decode cX6_take 34 = .ok (.if_icmp .eq 15, 3) := by decide +kernel
theorem dX6_take_37 : decode cX6_take 37 = .ok (.iload_n 1, 1) := by decide +kernel
theorem dX6_take_38 : decode cX6_take 38 = .ok (.bipush 91, 2) := by decide +kernel
theorem dX6_take_40 : decode cX6_take 40 = .ok (.if_icmp .eq 9, 3) := by decide +kernel
theorem dX6_take_43 : decode cX6_take 43 = .ok (.iload_n 1, 1) := by decide +kernel
theorem dX6_take_44 : decode cX6_take 44 = .ok (.bipush 60, 2) := by decide +kernel
theorem dX6_take_46 : decode cX6_take 46 = .ok (.if_icmp .ne 10, 3) := by decide +kernel
theorem dX6_take_49 : decode cX6_take 49 = .ok (.aload_n 0, 1) := by decide +kernel
theorem dX6_take_50 : decode cX6_take 50 = .ok (.iload_n 1, 1) := by decide +kernel
theorem dX6_take_51 : decode cX6_take 51 = .ok (.aload_n 2, 1) := by decide +kernel
theorem dX6_take_52 : decode cX6_take 52 = .ok (.invokevirtual 56, 3) := by decide +kernel
theorem dX6_take_55 : decode cX6_take 55 = .ok (.ireturn, 1) := by decide +kernel
theorem dX6_take_56 : decode cX6_take 56 = .ok (.aload_n 0, 1) := by decide +kernel
theorem dX6_take_57 : decode cX6_take 57 = .ok (.iconst 0, 1) := by decide +kernel
theorem dX6_take_58 : decode cX6_take 58 = .ok (.putfield 37, 3) := by decide +kernel
theorem dX6_take_61 : decode cX6_take 61 = .ok (.iload_n 1, 1) := by decide +kernel
theorem dX6_take_62 : decode cX6_take 62 = .ok (.bipush 126, 2) := by decide +kernel
theorem dX6_take_64 : decode cX6_take 64 = .ok (.if_icmp .ne 11, 3) := by decide +kernel
theorem dX6_take_67 : decode cX6_take 67 = .ok (.aload_n 0, 1) := by decide +kernel
theorem dX6_take_68 : decode cX6_take 68 = .ok (.bipush (-5), 2) := by decide +kernel
theorem dX6_take_70 : decode cX6_take 70 = .ok (.aload_n 2, 1) := by decide +kernel
theorem dX6_take_71 : decode cX6_take 71 = .ok (.invokevirtual 60, 3) := by decide +kernel
theorem dX6_take_74 : decode cX6_take 74 = .ok (.ireturn, 1) := by decide +kernel
theorem dX6_take_75 : decode cX6_take 75 = .ok (.iload_n 1, 1) := by decide +kernel
theorem dX6_take_76 : decode cX6_take 76 = .ok (.bipush 48, 2) := by decide +kernel
theorem dX6_take_78 : decode cX6_take 78 = .ok (.if_icmp .lt 35, 3) := by decide +kernel
theorem dX6_take_81 : decode cX6_take 81 = .ok (.iload_n 1, 1) := by decide +kernel
theorem dX6_take_82 : decode cX6_take 82 = .ok (.bipush 57, 2) := by decide +kernel
theorem dX6_take_84 : decode cX6_take 84 = .ok (.if_icmp .gt 29, 3) := by decide +kernel
theorem dX6_take_87 : decode cX6_take 87 = .ok (.aload_n 0, 1) := by decide +kernel
theorem dX6_take_88 : decode cX6_take 88 = .ok (.dup, 1) := by decide +kernel
theorem dX6_take_89 : decode cX6_take 89 = .ok (.getfield 15, 3) := by decide +kernel
theorem dX6_take_92 : decode cX6_take 92 = .ok (.iconst 1, 1) := by decide +kernel
theorem dX6_take_93 : decode cX6_take 93 = .ok (.iadd, 1) := by decide +kernel
theorem dX6_take_94 : decode cX6_take 94 = .ok (.putfield 15, 3) := by decide +kernel
theorem dX6_take_97 : decode cX6_take 97 = .ok (.aload_n 0, 1) := by decide +kernel
theorem dX6_take_98 : decode cX6_take 98 = .ok (.aload_n 2, 1) := by decide +kernel
theorem dX6_take_99 : decode cX6_take 99 = .ok (.iconst 0, 1) := by decide +kernel
theorem dX6_take_100 : decode cX6_take 100 = .ok (.iload_n 1, 1) := by decide +kernel
theorem dX6_take_101 : decode cX6_take 101 = .ok (.bipush 48, 2) := by decide +kernel
theorem dX6_take_103 : decode cX6_take 103 = .ok (.isub, 1) := by decide +kernel
theorem dX6_take_104 : decode cX6_take 104 = .ok (.iconst 0, 1) := by decide +kernel
theorem dX6_take_105 : decode cX6_take 105 = .ok (.invokevirtual 63, 3) := by decide +kernel
theorem dX6_take_108 : decode cX6_take 108 = .ok (.aload_n 2, 1) := by decide +kernel
theorem dX6_take_109 : decode cX6_take 109 = .ok (.invokevirtual 60, 3) := by decide +kernel
theorem dX6_take_112 : decode cX6_take 112 = .ok (.ireturn, 1) := by decide +kernel
theorem dX6_take_113 : decode cX6_take 113 = .ok (.iload_n 1, 1) := by decide +kernel
theorem dX6_take_114 : decode cX6_take 114 = .ok (.bipush 97, 2) := by decide +kernel
theorem dX6_take_116 : decode cX6_take 116 = .ok (.if_icmp .lt 38, 3) := by decide +kernel
theorem dX6_take_119 : decode cX6_take 119 = .ok (.iload_n 1, 1) := by decide +kernel
theorem dX6_take_120 : decode cX6_take 120 = .ok (.bipush 120, 2) := by decide +kernel
theorem dX6_take_122 : decode cX6_take 122 = .ok (.if_icmp .gt 32, 3) := by decide +kernel
theorem dX6_take_125 : decode cX6_take 125 = .ok (.iload_n 3, 1) := by decide +kernel
theorem dX6_take_126 : decode cX6_take 126 = .ok (.iload_n 1, 1) := by decide +kernel
theorem dX6_take_127 : decode cX6_take 127 = .ok (.bipush 97, 2) := by decide +kernel
theorem dX6_take_129 : decode cX6_take 129 = .ok (.isub, 1) := by decide +kernel
theorem dX6_take_130 : decode cX6_take 130 = .ok (.invokestatic 69, 3) := by decide +kernel
theorem dX6_take_133 : decode cX6_take 133 = .ok (.ifCond .eq 19, 3) := by decide +kernel
theorem dX6_take_136 : decode cX6_take 136 = .ok (.aload_n 0, 1) := by decide +kernel
theorem dX6_take_137 : decode cX6_take 137 = .ok (.iload_n 1, 1) := by decide +kernel
theorem dX6_take_138 : decode cX6_take 138 = .ok (.bipush 97, 2) := by decide +kernel
theorem dX6_take_140 : decode cX6_take 140 = .ok (.isub, 1) := by decide +kernel
theorem dX6_take_141 : decode cX6_take 141 = .ok (.aload_n 2, 1) := by decide +kernel
theorem dX6_take_142 : decode cX6_take 142 = .ok (.invokevirtual 60, 3) := by decide +kernel
theorem dX6_take_145 : decode cX6_take 145 = .ok (.ifCond .eq 7, 3) := by decide +kernel
theorem dX6_take_148 : decode cX6_take 148 = .ok (.iconst 1, 1) := by decide +kernel
theorem dX6_take_149 : decode cX6_take 149 = .ok (.goto 4, 3) := by decide +kernel
theorem dX6_take_152 : decode cX6_take 152 = .ok (.iconst 0, 1) := by decide +kernel
theorem dX6_take_153 : decode cX6_take 153 = .ok (.ireturn, 1) := by decide +kernel
theorem dX6_take_154 : decode cX6_take 154 = .ok (.aload_n 0, 1) := by decide +kernel
theorem dX6_take_155 : decode cX6_take 155 = .ok (.getfield 34, 3) := by decide +kernel
theorem dX6_take_158 : decode cX6_take 158 = .ok (.iconst 1, 1) := by decide +kernel
theorem dX6_take_159 : decode cX6_take 159 = .ok (.isub, 1) := by decide +kernel
theorem dX6_take_160 : decode cX6_take 160 = .ok (.iload_n 1, 1) := by decide +kernel
theorem dX6_take_161 : decode cX6_take 161 = .ok (.bipush 65, 2) := by decide +kernel
theorem dX6_take_163 : decode cX6_take 163 = .ok (.isub, 1) := by decide +kernel
theorem dX6_take_164 : decode cX6_take 164 = .ok (.isub, 1) := by decide +kernel
theorem dX6_take_165 : decode cX6_take 165 = .ok (.istore 4, 2) := by decide +kernel
theorem dX6_take_167 : decode cX6_take 167 = .ok (.iload_n 1, 1) := by decide +kernel
theorem dX6_take_168 : decode cX6_take 168 = .ok (.bipush 65, 2) := by decide +kernel
theorem dX6_take_170 : decode cX6_take 170 = .ok (.if_icmp .lt 40, 3) := by decide +kernel
theorem dX6_take_173 : decode cX6_take 173 = .ok (.iload_n 1, 1) := by decide +kernel
theorem dX6_take_174 : decode cX6_take 174 = .ok (.bipush 70, 2) := by decide +kernel
theorem dX6_take_176 : decode cX6_take 176 = .ok (.if_icmp .gt 34, 3) := by decide +kernel
theorem dX6_take_179 : decode cX6_take 179 = .ok (.iload 4, 2) := by decide +kernel
theorem dX6_take_181 : decode cX6_take 181 = .ok (.ifCond .lt 29, 3) := by decide +kernel
theorem dX6_take_184 : decode cX6_take 184 = .ok (.iload 4, 2) := by decide +kernel
theorem dX6_take_186 : decode cX6_take 186 = .ok (.bipush 6, 2) := by decide +kernel
theorem dX6_take_188 : decode cX6_take 188 = .ok (.if_icmp .ge 22, 3) := by decide +kernel
theorem dX6_take_191 : decode cX6_take 191 = .ok (.aload_n 0, 1) := by decide +kernel
theorem dX6_take_192 : decode cX6_take 192 = .ok (.aload_n 0, 1) := by decide +kernel
theorem dX6_take_193 : decode cX6_take 193 = .ok (.getfield 25, 3) := by decide +kernel
theorem dX6_take_196 : decode cX6_take 196 = .ok (.iload 4, 2) := by decide +kernel
theorem dX6_take_198 : decode cX6_take 198 = .ok (.iaload, 1) := by decide +kernel
theorem dX6_take_199 : decode cX6_take 199 = .ok (.aload_n 2, 1) := by decide +kernel
theorem dX6_take_200 : decode cX6_take 200 = .ok (.invokevirtual 60, 3) := by decide +kernel
theorem dX6_take_203 : decode cX6_take 203 = .ok (.ifCond .eq 7, 3) := by decide +kernel
theorem dX6_take_206 : decode cX6_take 206 = .ok (.iconst 1, 1) := by decide +kernel
theorem dX6_take_207 : decode cX6_take 207 = .ok (.goto 4, 3) := by decide +kernel
theorem dX6_take_210 : decode cX6_take 210 = .ok (.iconst 0, 1) := by decide +kernel
theorem dX6_take_211 : decode cX6_take 211 = .ok (.ireturn, 1) := by decide +kernel
theorem dX6_open_0 : decode cX6_open 0 = .ok (.aload_n 0, 1) := by decide +kernel
theorem dX6_open_1 : decode cX6_open 1 = .ok (.getfield 34, 3) := by decide +kernel
theorem dX6_open_4 : decode cX6_open 4 = .ok (.ifCond .lt 12, 3) := by decide +kernel
theorem dX6_open_7 : decode cX6_open 7 = .ok (.aload_n 0, 1) := by decide +kernel
theorem dX6_open_8 : decode cX6_open 8 = .ok (.getfield 34, 3) := by decide +kernel
theorem dX6_open_11 : decode cX6_open 11 = .ok (.bipush 6, 2) := by decide +kernel
theorem dX6_open_13 : decode cX6_open 13 = .ok (.if_icmp .lt 5, 3) := by decide +kernel
theorem dX6_open_16 : decode cX6_open 16 = .ok (.iconst 0, 1) := by decide +kernel
theorem dX6_open_17 : decode cX6_open 17 = .ok (.ireturn, 1) := by decide +kernel
theorem dX6_open_18 : decode cX6_open 18 = .ok (.iload_n 1, 1) := by decide +kernel
theorem dX6_open_19 : decode cX6_open 19 = .ok (.bipush 40, 2) := by decide +kernel
theorem dX6_open_21 : decode cX6_open 21 = .ok (.if_icmp .ne 7, 3) := by decide +kernel
theorem dX6_open_24 : decode cX6_open 24 = .ok (.iconst 1, 1) := by decide +kernel
theorem dX6_open_25 : decode cX6_open 25 = .ok (.goto 14, 3) := by decide +kernel
theorem dX6_open_28 : decode cX6_open 28 = .ok (.iload_n 1, 1) := by decide +kernel
theorem dX6_open_29 : decode cX6_open 29 = .ok (.bipush 91, 2) := by decide +kernel
theorem dX6_open_31 : decode cX6_open 31 = .ok (.if_icmp .ne 7, 3) := by decide +kernel
theorem dX6_open_34 : decode cX6_open 34 = .ok (.iconst 2, 1) := by decide +kernel
theorem dX6_open_35 : decode cX6_open 35 = .ok (.goto 4, 3) := by decide +kernel
theorem dX6_open_38 : decode cX6_open 38 = .ok (.iconst 3, 1) := by decide +kernel
theorem dX6_open_39 : decode cX6_open 39 = .ok (.istore_n 3, 1) := by decide +kernel
theorem dX6_open_40 : decode cX6_open 40 = .ok (.aload_n 2, 1) := by decide +kernel
theorem dX6_open_41 : decode cX6_open 41 = .ok (.iload_n 3, 1) := by decide +kernel
theorem dX6_open_42 : decode cX6_open 42 = .ok (.iconst 0, 1) := by decide +kernel
theorem dX6_open_43 : decode cX6_open 43 = .ok (.iload_n 3, 1) := by decide +kernel
theorem dX6_open_44 : decode cX6_open 44 = .ok (.iconst 0, 1) := by decide +kernel
theorem dX6_open_45 : decode cX6_open 45 = .ok (.invokestatic 73, 3) := by decide +kernel
theorem dX6_open_48 : decode cX6_open 48 = .ok (.invokevirtual 63, 3) := by decide +kernel
theorem dX6_open_51 : decode cX6_open 51 = .ok (.istore 4, 2) := by decide +kernel
theorem dX6_open_53 : decode cX6_open 53 = .ok (.aload_n 0, 1) := by decide +kernel
theorem dX6_open_54 : decode cX6_open 54 = .ok (.dup, 1) := by decide +kernel
theorem dX6_open_55 : decode cX6_open 55 = .ok (.getfield 15, 3) := by decide +kernel
theorem dX6_open_58 : decode cX6_open 58 = .ok (.iconst 1, 1) := by decide +kernel
theorem dX6_open_59 : decode cX6_open 59 = .ok (.iadd, 1) := by decide +kernel
theorem dX6_open_60 : decode cX6_open 60 = .ok (.putfield 15, 3) := by decide +kernel
theorem dX6_open_63 : decode cX6_open 63 = .ok (.aload_n 0, 1) := by decide +kernel
theorem dX6_open_64 : decode cX6_open 64 = .ok (.iload 4, 2) := by decide +kernel
theorem dX6_open_66 : decode cX6_open 66 = .ok (.aload_n 2, 1) := by decide +kernel
theorem dX6_open_67 : decode cX6_open 67 = .ok (.invokevirtual 60, 3) := by decide +kernel
theorem dX6_open_70 : decode cX6_open 70 = .ok (.pop, 1) := by decide +kernel
theorem dX6_open_71 : decode cX6_open 71 = .ok (.aload_n 0, 1) := by decide +kernel
theorem dX6_open_72 : decode cX6_open 72 = .ok (.getfield 25, 3) := by decide +kernel
theorem dX6_open_75 : decode cX6_open 75 = .ok (.aload_n 0, 1) := by decide +kernel
theorem dX6_open_76 : decode cX6_open 76 = .ok (.getfield 34, 3) := by decide +kernel
theorem dX6_open_79 : decode cX6_open 79 = .ok (.iload 4, 2) := by decide +kernel
theorem dX6_open_81 : decode cX6_open 81 = .ok (.iastore, 1) := by decide +kernel
theorem dX6_open_82 : decode cX6_open 82 = .ok (.aload_n 0, 1) := by decide +kernel
theorem dX6_open_83 : decode cX6_open 83 = .ok (.getfield 28, 3) := by decide +kernel
theorem dX6_open_86 : decode cX6_open 86 = .ok (.aload_n 0, 1) := by decide +kernel
theorem dX6_open_87 : decode cX6_open 87 = .ok (.getfield 34, 3) := by decide +kernel
theorem dX6_open_90 : decode cX6_open 90 = .ok (.iload_n 3, 1) := by decide +kernel
theorem dX6_open_91 : decode cX6_open 91 = .ok (.iastore, 1) := by decide +kernel
theorem dX6_open_92 : decode cX6_open 92 = .ok (.aload_n 0, 1) := by decide +kernel
theorem dX6_open_93 : decode cX6_open 93 = .ok (.getfield 31, 3) := by decide +kernel
theorem dX6_open_96 : decode cX6_open 96 = .ok (.aload_n 0, 1) := by decide +kernel
theorem dX6_open_97 : decode cX6_open 97 = .ok (.getfield 34, 3) := by decide +kernel
theorem dX6_open_100 : decode cX6_open 100 = .ok (.iconst 0, 1) := by decide +kernel
theorem dX6_open_101 : decode cX6_open 101 = .ok (.iastore, 1) := by decide +kernel
theorem dX6_open_102 : decode cX6_open 102 = .ok (.aload_n 0, 1) := by decide +kernel
theorem dX6_open_103 : decode cX6_open 103 = .ok (.dup, 1) := by decide +kernel
theorem dX6_open_104 : decode cX6_open 104 = .ok (.getfield 34, 3) := by decide +kernel
theorem dX6_open_107 : decode cX6_open 107 = .ok (.iconst 1, 1) := by decide +kernel
theorem dX6_open_108 : decode cX6_open 108 = .ok (.iadd, 1) := by decide +kernel
theorem dX6_open_109 : decode cX6_open 109 = .ok (.putfield 34, 3) := by decide +kernel
theorem dX6_open_112 : decode cX6_open 112 = .ok (.iconst 1, 1) := by decide +kernel
theorem dX6_open_113 : decode cX6_open 113 = .ok (.ireturn, 1) := by decide +kernel
theorem dX6_put_0 : decode cX6_put 0 = .ok (.aload_n 0, 1) := by decide +kernel
theorem dX6_put_1 : decode cX6_put 1 = .ok (.getfield 34, 3) := by decide +kernel
theorem dX6_put_4 : decode cX6_put 4 = .ok (.ifCond .le 12, 3) := by decide +kernel
theorem dX6_put_7 : decode cX6_put 7 = .ok (.aload_n 0, 1) := by decide +kernel
theorem dX6_put_8 : decode cX6_put 8 = .ok (.getfield 34, 3) := by decide +kernel
theorem dX6_put_11 : decode cX6_put 11 = .ok (.bipush 6, 2) := by decide +kernel
theorem dX6_put_13 : decode cX6_put 13 = .ok (.if_icmp .le 10, 3) := by decide +kernel
theorem dX6_put_16 : decode cX6_put 16 = .ok (.aload_n 0, 1) := by decide +kernel
theorem dX6_put_17 : decode cX6_put 17 = .ok (.iload_n 1, 1) := by decide +kernel
theorem dX6_put_18 : decode cX6_put 18 = .ok (.putfield 18, 3) := by decide +kernel
theorem dX6_put_21 : decode cX6_put 21 = .ok (.iconst 1, 1) := by decide +kernel
theorem dX6_put_22 : decode cX6_put 22 = .ok (.ireturn, 1) := by decide +kernel
theorem dX6_put_23 : decode cX6_put 23 = .ok (.aload_n 0, 1) := by decide +kernel
theorem dX6_put_24 : decode cX6_put 24 = .ok (.getfield 34, 3) := by decide +kernel
theorem dX6_put_27 : decode cX6_put 27 = .ok (.iconst 1, 1) := by decide +kernel
theorem dX6_put_28 : decode cX6_put 28 = .ok (.isub, 1) := by decide +kernel
theorem dX6_put_29 : decode cX6_put 29 = .ok (.istore_n 3, 1) := by decide +kernel
theorem dX6_put_30 : decode cX6_put 30 = .ok (.aload_n 0, 1) := by decide +kernel
theorem dX6_put_31 : decode cX6_put 31 = .ok (.getfield 28, 3) := by decide +kernel
theorem dX6_put_34 : decode cX6_put 34 = .ok (.iload_n 3, 1) := by decide +kernel
theorem dX6_put_35 : decode cX6_put 35 = .ok (.iaload, 1) := by decide +kernel
theorem dX6_put_36 : decode cX6_put 36 = .ok (.iconst 2, 1) := by decide +kernel
theorem dX6_put_37 : decode cX6_put 37 = .ok (.if_icmp .ne 13, 3) := by decide +kernel
theorem dX6_put_40 : decode cX6_put 40 = .ok (.aload_n 2, 1) := by decide +kernel
theorem dX6_put_41 : decode cX6_put 41 = .ok (.aload_n 0, 1) := by decide +kernel
theorem dX6_put_42 : decode cX6_put 42 = .ok (.getfield 25, 3) := by decide +kernel
theorem dX6_put_45 : decode cX6_put 45 = .ok (.iload_n 3, 1) := by decide +kernel
theorem dX6_put_46 : decode cX6_put 46 = .ok (.iaload, 1) := by decide +kernel
theorem dX6_put_47 : decode cX6_put 47 = .ok (.invokevirtual 77, 3) := by decide +kernel
theorem dX6_put_50 : decode cX6_put 50 = .ok (.aload_n 2, 1) := by decide +kernel
theorem dX6_put_51 : decode cX6_put 51 = .ok (.aload_n 0, 1) := by decide +kernel
theorem dX6_put_52 : decode cX6_put 52 = .ok (.getfield 25, 3) := by decide +kernel
theorem dX6_put_55 : decode cX6_put 55 = .ok (.iload_n 3, 1) := by decide +kernel
theorem dX6_put_56 : decode cX6_put 56 = .ok (.iaload, 1) := by decide +kernel
theorem dX6_put_57 : decode cX6_put 57 = .ok (.aload_n 0, 1) := by decide +kernel
theorem dX6_put_58 : decode cX6_put 58 = .ok (.getfield 31, 3) := by decide +kernel
theorem dX6_put_61 : decode cX6_put 61 = .ok (.iload_n 3, 1) := by decide +kernel
theorem dX6_put_62 : decode cX6_put 62 = .ok (.iaload, 1) := by decide +kernel
theorem dX6_put_63 : decode cX6_put 63 = .ok (.iload_n 1, 1) := by decide +kernel
theorem dX6_put_64 : decode cX6_put 64 = .ok (.invokevirtual 81, 3) := by decide +kernel
theorem dX6_put_67 : decode cX6_put 67 = .ok (.aload_n 0, 1) := by decide +kernel
theorem dX6_put_68 : decode cX6_put 68 = .ok (.getfield 31, 3) := by decide +kernel
theorem dX6_put_71 : decode cX6_put 71 = .ok (.iload_n 3, 1) := by decide +kernel
theorem dX6_put_72 : decode cX6_put 72 = .ok (.dup2, 1) := by decide +kernel
theorem dX6_put_73 : decode cX6_put 73 = .ok (.iaload, 1) := by decide +kernel
theorem dX6_put_74 : decode cX6_put 74 = .ok (.iconst 1, 1) := by decide +kernel
theorem dX6_put_75 : decode cX6_put 75 = .ok (.iadd, 1) := by decide +kernel
theorem dX6_put_76 : decode cX6_put 76 = .ok (.iastore, 1) := by decide +kernel
theorem dX6_put_77 : decode cX6_put 77 = .ok (.iconst 1, 1) := by decide +kernel
theorem dX6_put_78 : decode cX6_put 78 = .ok (.ireturn, 1) := by decide +kernel
theorem dX6_goOn_0 : decode cX6_goOn 0 = .ok (.aload_n 0, 1) := by decide +kernel
theorem dX6_goOn_1 : decode cX6_goOn 1 = .ok (.getfield 34, 3) := by decide +kernel
theorem dX6_goOn_4 : decode cX6_goOn 4 = .ok (.ifCond .le 12, 3) := by decide +kernel
theorem dX6_goOn_7 : decode cX6_goOn 7 = .ok (.aload_n 0, 1) := by decide +kernel
theorem dX6_goOn_8 : decode cX6_goOn 8 = .ok (.getfield 34, 3) := by decide +kernel
theorem dX6_goOn_11 : decode cX6_goOn 11 = .ok (.bipush 6, 2) := by decide +kernel
theorem dX6_goOn_13 : decode cX6_goOn 13 = .ok (.if_icmp .le 5, 3) := by decide +kernel
theorem dX6_goOn_16 : decode cX6_goOn 16 = .ok (.iconst 0, 1) := by decide +kernel
theorem dX6_goOn_17 : decode cX6_goOn 17 = .ok (.ireturn, 1) := by decide +kernel
theorem dX6_goOn_18 : decode cX6_goOn 18 = .ok (.aload_n 0, 1) := by decide +kernel
theorem dX6_goOn_19 : decode cX6_goOn 19 = .ok (.getfield 34, 3) := by decide +kernel
theorem dX6_goOn_22 : decode cX6_goOn 22 = .ok (.iconst 1, 1) := by decide +kernel
theorem dX6_goOn_23 : decode cX6_goOn 23 = .ok (.isub, 1) := by decide +kernel
theorem dX6_goOn_24 : decode cX6_goOn 24 = .ok (.istore_n 2, 1) := by decide +kernel
theorem dX6_goOn_25 : decode cX6_goOn 25 = .ok (.aload_n 0, 1) := by decide +kernel
theorem dX6_goOn_26 : decode cX6_goOn 26 = .ok (.getfield 28, 3) := by decide +kernel
theorem dX6_goOn_29 : decode cX6_goOn 29 = .ok (.iload_n 2, 1) := by decide +kernel
theorem dX6_goOn_30 : decode cX6_goOn 30 = .ok (.iaload, 1) := by decide +kernel
theorem dX6_goOn_31 : decode cX6_goOn 31 = .ok (.lookupswitch 118 #[(1, 25), (2, 75)], 25) := by decide +kernel
theorem dX6_goOn_56 : decode cX6_goOn 56 = .ok (.aload_n 0, 1) := by decide +kernel
theorem dX6_goOn_57 : decode cX6_goOn 57 = .ok (.getfield 31, 3) := by decide +kernel
theorem dX6_goOn_60 : decode cX6_goOn 60 = .ok (.iload_n 2, 1) := by decide +kernel
theorem dX6_goOn_61 : decode cX6_goOn 61 = .ok (.iaload, 1) := by decide +kernel
theorem dX6_goOn_62 : decode cX6_goOn 62 = .ok (.iconst 2, 1) := by decide +kernel
theorem dX6_goOn_63 : decode cX6_goOn 63 = .ok (.if_icmp .ge 24, 3) := by decide +kernel
theorem dX6_goOn_66 : decode cX6_goOn 66 = .ok (.iload_n 1, 1) := by decide +kernel
theorem dX6_goOn_67 : decode cX6_goOn 67 = .ok (.bipush 46, 2) := by decide +kernel
theorem dX6_goOn_69 : decode cX6_goOn 69 = .ok (.if_icmp .ne 14, 3) := by decide +kernel
theorem dX6_goOn_72 : decode cX6_goOn 72 = .ok (.aload_n 0, 1) := by decide +kernel
theorem dX6_goOn_73 : decode cX6_goOn 73 = .ok (.invokevirtual 85, 3) := by decide +kernel
theorem dX6_goOn_76 : decode cX6_goOn 76 = .ok (.ifCond .eq 7, 3) := by decide +kernel
theorem dX6_goOn_79 : decode cX6_goOn 79 = .ok (.iconst 1, 1) := by decide +kernel
theorem dX6_goOn_80 : decode cX6_goOn 80 = .ok (.goto 25, 3) := by decide +kernel
theorem dX6_goOn_83 : decode cX6_goOn 83 = .ok (.iconst 0, 1) := by decide +kernel
theorem dX6_goOn_84 : decode cX6_goOn 84 = .ok (.goto 21, 3) := by decide +kernel
theorem dX6_goOn_87 : decode cX6_goOn 87 = .ok (.iload_n 1, 1) := by decide +kernel
theorem dX6_goOn_88 : decode cX6_goOn 88 = .ok (.bipush 41, 2) := by decide +kernel
theorem dX6_goOn_90 : decode cX6_goOn 90 = .ok (.if_icmp .ne 14, 3) := by decide +kernel
theorem dX6_goOn_93 : decode cX6_goOn 93 = .ok (.aload_n 0, 1) := by decide +kernel
theorem dX6_goOn_94 : decode cX6_goOn 94 = .ok (.invokevirtual 53, 3) := by decide +kernel
theorem dX6_goOn_97 : decode cX6_goOn 97 = .ok (.ifCond .eq 7, 3) := by decide +kernel
theorem dX6_goOn_100 : decode cX6_goOn 100 = .ok (.iconst 1, 1) := by decide +kernel
theorem dX6_goOn_101 : decode cX6_goOn 101 = .ok (.goto 4, 3) := by decide +kernel
theorem dX6_goOn_104 : decode cX6_goOn 104 = .ok (.iconst 0, 1) := by decide +kernel
theorem dX6_goOn_105 : decode cX6_goOn 105 = .ok (.ireturn, 1) := by decide +kernel
theorem dX6_goOn_106 : decode cX6_goOn 106 = .ok (.iload_n 1, 1) := by decide +kernel
theorem dX6_goOn_107 : decode cX6_goOn 107 = .ok (.bipush 93, 2) := by decide +kernel
theorem dX6_goOn_109 : decode cX6_goOn 109 = .ok (.if_icmp .ne 10, 3) := by decide +kernel
theorem dX6_goOn_112 : decode cX6_goOn 112 = .ok (.aload_n 0, 1) := by decide +kernel
theorem dX6_goOn_113 : decode cX6_goOn 113 = .ok (.invokevirtual 53, 3) := by decide +kernel
theorem dX6_goOn_116 : decode cX6_goOn 116 = .ok (.goto 32, 3) := by decide +kernel
theorem dX6_goOn_119 : decode cX6_goOn 119 = .ok (.iload_n 1, 1) := by decide +kernel
theorem dX6_goOn_120 : decode cX6_goOn 120 = .ok (.bipush 44, 2) := by decide +kernel
theorem dX6_goOn_122 : decode cX6_goOn 122 = .ok (.if_icmp .ne 25, 3) := by decide +kernel
theorem dX6_goOn_125 : decode cX6_goOn 125 = .ok (.aload_n 0, 1) := by decide +kernel
theorem dX6_goOn_126 : decode cX6_goOn 126 = .ok (.getfield 31, 3) := by decide +kernel
theorem dX6_goOn_129 : decode cX6_goOn 129 = .ok (.iload_n 2, 1) := by decide +kernel
theorem dX6_goOn_130 : decode cX6_goOn 130 = .ok (.iaload, 1) := by decide +kernel
theorem dX6_goOn_131 : decode cX6_goOn 131 = .ok (.bipush 6, 2) := by decide +kernel
theorem dX6_goOn_133 : decode cX6_goOn 133 = .ok (.if_icmp .ge 14, 3) := by decide +kernel
theorem dX6_goOn_136 : decode cX6_goOn 136 = .ok (.aload_n 0, 1) := by decide +kernel
theorem dX6_goOn_137 : decode cX6_goOn 137 = .ok (.invokevirtual 85, 3) := by decide +kernel
theorem dX6_goOn_140 : decode cX6_goOn 140 = .ok (.ifCond .eq 7, 3) := by decide +kernel
theorem dX6_goOn_143 : decode cX6_goOn 143 = .ok (.iconst 1, 1) := by decide +kernel
theorem dX6_goOn_144 : decode cX6_goOn 144 = .ok (.goto 4, 3) := by decide +kernel
theorem dX6_goOn_147 : decode cX6_goOn 147 = .ok (.iconst 0, 1) := by decide +kernel
theorem dX6_goOn_148 : decode cX6_goOn 148 = .ok (.ireturn, 1) := by decide +kernel
theorem dX6_goOn_149 : decode cX6_goOn 149 = .ok (.iload_n 1, 1) := by decide +kernel
theorem dX6_goOn_150 : decode cX6_goOn 150 = .ok (.bipush 62, 2) := by decide +kernel
theorem dX6_goOn_152 : decode cX6_goOn 152 = .ok (.if_icmp .ne 14, 3) := by decide +kernel
theorem dX6_goOn_155 : decode cX6_goOn 155 = .ok (.aload_n 0, 1) := by decide +kernel
theorem dX6_goOn_156 : decode cX6_goOn 156 = .ok (.invokevirtual 53, 3) := by decide +kernel
theorem dX6_goOn_159 : decode cX6_goOn 159 = .ok (.ifCond .eq 7, 3) := by decide +kernel
theorem dX6_goOn_162 : decode cX6_goOn 162 = .ok (.iconst 1, 1) := by decide +kernel
theorem dX6_goOn_163 : decode cX6_goOn 163 = .ok (.goto 4, 3) := by decide +kernel
theorem dX6_goOn_166 : decode cX6_goOn 166 = .ok (.iconst 0, 1) := by decide +kernel
theorem dX6_goOn_167 : decode cX6_goOn 167 = .ok (.ireturn, 1) := by decide +kernel
theorem dX6_isRowJustOpened_0 : decode cX6_isRowJustOpened 0 = .ok (.aload_n 0, 1) := by decide +kernel
theorem dX6_isRowJustOpened_1 : decode cX6_isRowJustOpened 1 = .ok (.getfield 34, 3) := by decide +kernel
theorem dX6_isRowJustOpened_4 : decode cX6_isRowJustOpened 4 = .ok (.ifCond .le 45, 3) := by decide +kernel
theorem dX6_isRowJustOpened_7 : decode cX6_isRowJustOpened 7 = .ok (.aload_n 0, 1) := by decide +kernel
theorem dX6_isRowJustOpened_8 : decode cX6_isRowJustOpened 8 = .ok (.getfield 34, 3) := by decide +kernel
theorem dX6_isRowJustOpened_11 : decode cX6_isRowJustOpened 11 = .ok (.bipush 6, 2) := by decide +kernel
theorem dX6_isRowJustOpened_13 : decode cX6_isRowJustOpened 13 = .ok (.if_icmp .gt 36, 3) := by decide +kernel
theorem dX6_isRowJustOpened_16 : decode cX6_isRowJustOpened 16 = .ok (.aload_n 0, 1) := by decide +kernel
theorem dX6_isRowJustOpened_17 : decode cX6_isRowJustOpened 17 = .ok (.getfield 28, 3) := by decide +kernel
theorem dX6_isRowJustOpened_20 : decode cX6_isRowJustOpened 20 = .ok (.aload_n 0, 1) := by decide +kernel
theorem dX6_isRowJustOpened_21 : decode cX6_isRowJustOpened 21 = .ok (.getfield 34, 3) := by decide +kernel
theorem dX6_isRowJustOpened_24 : decode cX6_isRowJustOpened 24 = .ok (.iconst 1, 1) := by decide +kernel
theorem dX6_isRowJustOpened_25 : decode cX6_isRowJustOpened 25 = .ok (.isub, 1) := by decide +kernel
theorem dX6_isRowJustOpened_26 : decode cX6_isRowJustOpened 26 = .ok (.iaload, 1) := by decide +kernel
theorem dX6_isRowJustOpened_27 : decode cX6_isRowJustOpened 27 = .ok (.iconst 2, 1) := by decide +kernel
theorem dX6_isRowJustOpened_28 : decode cX6_isRowJustOpened 28 = .ok (.if_icmp .ne 21, 3) := by decide +kernel
theorem dX6_isRowJustOpened_31 : decode cX6_isRowJustOpened 31 = .ok (.aload_n 0, 1) := by decide +kernel
theorem dX6_isRowJustOpened_32 : decode cX6_isRowJustOpened 32 = .ok (.getfield 31, 3) := by decide +kernel
theorem dX6_isRowJustOpened_35 : decode cX6_isRowJustOpened 35 = .ok (.aload_n 0, 1) := by decide +kernel
theorem dX6_isRowJustOpened_36 : decode cX6_isRowJustOpened 36 = .ok (.getfield 34, 3) := by decide +kernel
theorem dX6_isRowJustOpened_39 : decode cX6_isRowJustOpened 39 = .ok (.iconst 1, 1) := by decide +kernel
theorem dX6_isRowJustOpened_40 : decode cX6_isRowJustOpened 40 = .ok (.isub, 1) := by decide +kernel
theorem dX6_isRowJustOpened_41 : decode cX6_isRowJustOpened 41 = .ok (.iaload, 1) := by decide +kernel
theorem dX6_isRowJustOpened_42 : decode cX6_isRowJustOpened 42 = .ok (.ifCond .ne 7, 3) := by decide +kernel
theorem dX6_isRowJustOpened_45 : decode cX6_isRowJustOpened 45 = .ok (.iconst 1, 1) := by decide +kernel
theorem dX6_isRowJustOpened_46 : decode cX6_isRowJustOpened 46 = .ok (.goto 4, 3) := by decide +kernel
theorem dX6_isRowJustOpened_49 : decode cX6_isRowJustOpened 49 = .ok (.iconst 0, 1) := by decide +kernel
theorem dX6_isRowJustOpened_50 : decode cX6_isRowJustOpened 50 = .ok (.ireturn, 1) := by decide +kernel
theorem dX6_wantMore_0 : decode cX6_wantMore 0 = .ok (.aload_n 0, 1) := by decide +kernel
theorem dX6_wantMore_1 : decode cX6_wantMore 1 = .ok (.iconst 1, 1) := by decide +kernel
theorem dX6_wantMore_2 : decode cX6_wantMore 2 = .ok (.putfield 37, 3) := by decide +kernel
theorem dX6_wantMore_5 : decode cX6_wantMore 5 = .ok (.iconst 1, 1) := by decide +kernel
theorem dX6_wantMore_6 : decode cX6_wantMore 6 = .ok (.ireturn, 1) := by decide +kernel
theorem dX6_close_0 : decode cX6_close 0 = .ok (.aload_n 0, 1) := by decide +kernel
theorem dX6_close_1 : decode cX6_close 1 = .ok (.dup, 1) := by decide +kernel
theorem dX6_close_2 : decode cX6_close 2 = .ok (.getfield 34, 3) := by decide +kernel
theorem dX6_close_5 : decode cX6_close 5 = .ok (.iconst 1, 1) := by decide +kernel
theorem dX6_close_6 : decode cX6_close 6 = .ok (.isub, 1) := by decide +kernel
theorem dX6_close_7 : decode cX6_close 7 = .ok (.putfield 34, 3) := by decide +kernel
theorem dX6_close_10 : decode cX6_close 10 = .ok (.aload_n 0, 1) := by decide +kernel
theorem dX6_close_11 : decode cX6_close 11 = .ok (.iconst 0, 1) := by decide +kernel
theorem dX6_close_12 : decode cX6_close 12 = .ok (.putfield 37, 3) := by decide +kernel
theorem dX6_close_15 : decode cX6_close 15 = .ok (.iconst 1, 1) := by decide +kernel
theorem dX6_close_16 : decode cX6_close 16 = .ok (.ireturn, 1) := by decide +kernel
theorem dX7_init_0 : decode cX7_init 0 = .ok (.aload_n 0, 1) := by decide +kernel
theorem dX7_init_1 : decode cX7_init 1 = .ok (.invokespecial 3, 3) := by decide +kernel
theorem dX7_init_4 : decode cX7_init 4 = .ok (.aload_n 0, 1) := by decide +kernel
theorem dX7_init_5 : decode cX7_init 5 = .ok (.new 9, 3) := by decide +kernel
theorem dX7_init_8 : decode cX7_init 8 = .ok (.dup, 1) := by decide +kernel
theorem dX7_init_9 : decode cX7_init 9 = .ok (.invokespecial 11, 3) := by decide +kernel
theorem dX7_init_12 : decode cX7_init 12 = .ok (.putfield 12, 3) := by decide +kernel
theorem dX7_init_15 : decode cX7_init 15 = .ok (.aload_n 0, 1) := by decide +kernel
theorem dX7_init_16 : decode cX7_init 16 = .ok (.new 9, 3) := by decide +kernel
theorem dX7_init_19 : decode cX7_init 19 = .ok (.dup, 1) := by decide +kernel
theorem dX7_init_20 : decode cX7_init 20 = .ok (.invokespecial 11, 3) := by decide +kernel
theorem dX7_init_23 : decode cX7_init 23 = .ok (.putfield 18, 3) := by decide +kernel
theorem dX7_init_26 : decode cX7_init 26 = .ok (.aload_n 0, 1) := by decide +kernel
theorem dX7_init_27 : decode cX7_init 27 = .ok (.iconst 0, 1) := by decide +kernel
theorem dX7_init_28 : decode cX7_init 28 = .ok (.putfield 21, 3) := by decide +kernel
theorem dX7_init_31 : decode cX7_init 31 = .ok (.aload_n 0, 1) := by decide +kernel
theorem dX7_init_32 : decode cX7_init 32 = .ok (.new 25, 3) := by decide +kernel
theorem dX7_init_35 : decode cX7_init 35 = .ok (.dup, 1) := by decide +kernel
theorem dX7_init_36 : decode cX7_init 36 = .ok (.invokespecial 27, 3) := by decide +kernel
theorem dX7_init_39 : decode cX7_init 39 = .ok (.putfield 28, 3) := by decide +kernel
theorem dX7_init_42 : decode cX7_init 42 = .ok (.aload_n 0, 1) := by decide +kernel
theorem dX7_init_43 : decode cX7_init 43 = .ok (.new 32, 3) := by decide +kernel
theorem dX7_init_46 : decode cX7_init 46 = .ok (.dup, 1) := by decide +kernel
theorem dX7_init_47 : decode cX7_init 47 = .ok (.invokespecial 34, 3) := by decide +kernel
theorem dX7_init_50 : decode cX7_init 50 = .ok (.putfield 35, 3) := by decide +kernel
theorem dX7_init_53 : decode cX7_init 53 = .ok (.aload_n 0, 1) := by decide +kernel
theorem dX7_init_54 : decode cX7_init 54 = .ok (.new 39, 3) := by decide +kernel
theorem dX7_init_57 : decode cX7_init 57 = .ok (.dup, 1) := by decide +kernel
theorem dX7_init_58 : decode cX7_init 58 = .ok (.invokespecial 41, 3) := by decide +kernel
theorem dX7_init_61 : decode cX7_init 61 = .ok (.putfield 42, 3) := by decide +kernel
theorem dX7_init_64 : decode cX7_init 64 = .ok (.aload_n 0, 1) := by decide +kernel
theorem dX7_init_65 : decode cX7_init 65 = .ok (.new 46, 3) := by decide +kernel
theorem dX7_init_68 : decode cX7_init 68 = .ok (.dup, 1) := by decide +kernel
theorem dX7_init_69 : decode cX7_init 69 = .ok (.invokespecial 48, 3) := by decide +kernel
theorem dX7_init_72 : decode cX7_init 72 = .ok (.putfield 49, 3) := by decide +kernel
theorem dX7_init_75 : decode cX7_init 75 = .ok (.aload_n 0, 1) := by decide +kernel
theorem dX7_init_76 : decode cX7_init 76 = .ok (.new 53, 3) := by decide +kernel
theorem dX7_init_79 : decode cX7_init 79 = .ok (.dup, 1) := by decide +kernel
theorem dX7_init_80 : decode cX7_init 80 = .ok (.invokespecial 55, 3) := by decide +kernel
theorem dX7_init_83 : decode cX7_init 83 = .ok (.putfield 56, 3) := by decide +kernel
theorem dX7_init_86 : decode cX7_init 86 = .ok (.return_, 1) := by decide +kernel
theorem dX7_cell_0 : decode cX7_cell 0 = .ok (.iload_n 1, 1) := by decide +kernel
theorem dX7_cell_1 : decode cX7_cell 1 = .ok (.ifCond .lt 9, 3) := by decide +kernel
theorem dX7_cell_4 : decode cX7_cell 4 = .ok (.iload_n 1, 1) := by decide +kernel
theorem dX7_cell_5 : decode cX7_cell 5 = .ok (.bipush 6, 2) := by decide +kernel
theorem dX7_cell_7 : decode cX7_cell 7 = .ok (.if_icmp .le 5, 3) := by decide +kernel
theorem dX7_cell_10 : decode cX7_cell 10 = .ok (.iconst (-1), 1) := by decide +kernel
theorem dX7_cell_11 : decode cX7_cell 11 = .ok (.ireturn, 1) := by decide +kernel
theorem dX7_cell_12 : decode cX7_cell 12 = .ok (.iload_n 2, 1) := by decide +kernel
theorem dX7_cell_13 : decode cX7_cell 13 = .ok (.invokestatic 60, 3) := by decide +kernel
theorem dX7_cell_16 : decode cX7_cell 16 = .ok (.ifCond .eq 21, 3) := by decide +kernel
theorem dX7_cell_19 : decode cX7_cell 19 = .ok (.iload_n 1, 1) := by decide +kernel
theorem dX7_cell_20 : decode cX7_cell 20 = .ok (.iload_n 3, 1) := by decide +kernel
theorem dX7_cell_21 : decode cX7_cell 21 = .ok (.invokestatic 64, 3) := by decide +kernel
theorem dX7_cell_24 : decode cX7_cell 24 = .ok (.ifCond .lt 13, 3) := by decide +kernel
theorem dX7_cell_27 : decode cX7_cell 27 = .ok (.iload_n 1, 1) := by decide +kernel
theorem dX7_cell_28 : decode cX7_cell 28 = .ok (.iload_n 3, 1) := by decide +kernel
theorem dX7_cell_29 : decode cX7_cell 29 = .ok (.invokestatic 64, 3) := by decide +kernel
theorem dX7_cell_32 : decode cX7_cell 32 = .ok (.bipush 6, 2) := by decide +kernel
theorem dX7_cell_34 : decode cX7_cell 34 = .ok (.if_icmp .le 6, 3) := by decide +kernel
theorem dX7_cell_37 : decode cX7_cell 37 = .ok (.bipush (-2), 2) := by decide +kernel
theorem dX7_cell_39 : decode cX7_cell 39 = .ok (.ireturn, 1) := by decide +kernel
theorem dX7_cell_40 : decode cX7_cell 40 = .ok (.aload_n 0, 1) := by decide +kernel
theorem dX7_cell_41 : decode cX7_cell 41 = .ok (.getfield 12, 3) := by decide +kernel
theorem dX7_cell_44 : decode cX7_cell 44 = .ok (.getfield 68, 3) := by decide +kernel
theorem dX7_cell_47 : decode cX7_cell 47 = .ok (.getfield 71, 3) := by decide +kernel
theorem dX7_cell_50 : decode cX7_cell 50 = .ok (.ifCond .eq 6, 3) := by decide +kernel
theorem dX7_cell_53 : decode cX7_cell 53 = .ok (.bipush (-3), 2) := by decide +kernel
theorem dX7_cell_55 : decode cX7_cell 55 = .ok (.ireturn, 1) := by decide +kernel
theorem dX7_cell_56 : decode cX7_cell 56 = .ok (.aload_n 0, 1) := by decide +kernel
theorem dX7_cell_57 : decode cX7_cell 57 = .ok (.getfield 12, 3) := by decide +kernel
theorem dX7_cell_60 : decode cX7_cell 60 = .ok (.getfield 74, 3) := by decide +kernel
theorem dX7_cell_63 : decode cX7_cell 63 = .ok (.getfield 77, 3) := by decide +kernel
theorem dX7_cell_66 : decode cX7_cell 66 = .ok (.bipush 24, 2) := by decide +kernel
theorem dX7_cell_68 : decode cX7_cell 68 = .ok (.if_icmp .lt 6, 3) := by decide +kernel
theorem dX7_cell_71 : decode cX7_cell 71 = .ok (.bipush (-4), 2) := by decide +kernel
theorem dX7_cell_73 : decode cX7_cell 73 = .ok (.ireturn, 1) := by decide +kernel
theorem dX7_cell_74 : decode cX7_cell 74 = .ok (.aload_n 0, 1) := by decide +kernel
theorem dX7_cell_75 : decode cX7_cell 75 = .ok (.getfield 12, 3) := by decide +kernel
theorem dX7_cell_78 : decode cX7_cell 78 = .ok (.getfield 68, 3) := by decide +kernel
theorem dX7_cell_81 : decode cX7_cell 81 = .ok (.iconst 0, 1) := by decide +kernel
theorem dX7_cell_82 : decode cX7_cell 82 = .ok (.putfield 81, 3) := by decide +kernel
theorem dX7_cell_85 : decode cX7_cell 85 = .ok (.aload_n 0, 1) := by decide +kernel
theorem dX7_cell_86 : decode cX7_cell 86 = .ok (.getfield 12, 3) := by decide +kernel
theorem dX7_cell_89 : decode cX7_cell 89 = .ok (.getfield 74, 3) := by decide +kernel
theorem dX7_cell_92 : decode cX7_cell 92 = .ok (.iload_n 1, 1) := by decide +kernel
theorem dX7_cell_93 : decode cX7_cell 93 = .ok (.iload_n 2, 1) := by decide +kernel
theorem dX7_cell_94 : decode cX7_cell 94 = .ok (.iload_n 1, 1) := by decide +kernel
theorem dX7_cell_95 : decode cX7_cell 95 = .ok (.iload_n 3, 1) := by decide +kernel
theorem dX7_cell_96 : decode cX7_cell 96 = .ok (.invokestatic 64, 3) := by decide +kernel
theorem dX7_cell_99 : decode cX7_cell 99 = .ok (.invokevirtual 84, 3) := by decide +kernel
theorem dX7_cell_102 : decode cX7_cell 102 = .ok (.ireturn, 1) := by decide +kernel
theorem dX7_of_0 : decode cX7_of 0 = .ok (.aload_n 0, 1) := by decide +kernel
theorem dX7_of_1 : decode cX7_of 1 = .ok (.getfield 12, 3) := by decide +kernel
theorem dX7_of_4 : decode cX7_of 4 = .ok (.getfield 74, 3) := by decide +kernel
theorem dX7_of_7 : decode cX7_of 7 = .ok (.astore_n 3, 1) := by decide +kernel
theorem dX7_of_8 : decode cX7_of 8 = .ok (.aload_n 0, 1) := by decide +kernel
theorem dX7_of_9 : decode cX7_of 9 = .ok (.getfield 12, 3) := by decide +kernel
theorem dX7_of_12 : decode cX7_of 12 = .ok (.getfield 68, 3) := by decide +kernel
theorem dX7_of_15 : decode cX7_of 15 = .ok (.astore 4, 2) := by decide +kernel
theorem dX7_of_17 : decode cX7_of 17 = .ok (.aload_n 3, 1) := by decide +kernel
theorem dX7_of_18 : decode cX7_of 18 = .ok (.iload_n 1, 1) := by decide +kernel
theorem dX7_of_19 : decode cX7_of 19 = .ok (.invokevirtual 88, 3) := by decide +kernel
theorem dX7_of_22 : decode cX7_of 22 = .ok (.ifCond .ne 5, 3) := by decide +kernel
theorem dX7_of_25 : decode cX7_of 25 = .ok (.iconst (-1), 1) := by decide +kernel
theorem dX7_of_26 : decode cX7_of 26 = .ok (.ireturn, 1) := by decide +kernel
theorem dX7_of_27 : decode cX7_of 27 = .ok (.iload_n 2, 1) := by decide +kernel
theorem dX7_of_28 : decode cX7_of 28 = .ok (.tableswitch 146 0 12 #[68, 74, 80, 86, 99, 106, 119, 131, 146, 146, 146, 146, 137], 68) := by decide +kernel
theorem dX7_of_96 : decode cX7_of 96 = .ok (.aload_n 3, 1) := by decide +kernel
theorem dX7_of_97 : decode cX7_of 97 = .ok (.iload_n 1, 1) := by decide +kernel
theorem dX7_of_98 : decode cX7_of 98 = .ok (.invokevirtual 91, 3) := by decide +kernel
theorem dX7_of_101 : decode cX7_of 101 = .ok (.ireturn, 1) := by decide +kernel
theorem dX7_of_102 : decode cX7_of 102 = .ok (.aload_n 3, 1) := by decide +kernel
theorem dX7_of_103 : decode cX7_of 103 = .ok (.iload_n 1, 1) := by decide +kernel
theorem dX7_of_104 : decode cX7_of 104 = .ok (.invokevirtual 95, 3) := by decide +kernel
theorem dX7_of_107 : decode cX7_of 107 = .ok (.ireturn, 1) := by decide +kernel
theorem dX7_of_108 : decode cX7_of 108 = .ok (.aload_n 3, 1) := by decide +kernel
theorem dX7_of_109 : decode cX7_of 109 = .ok (.iload_n 1, 1) := by decide +kernel
theorem dX7_of_110 : decode cX7_of 110 = .ok (.invokevirtual 98, 3) := by decide +kernel
theorem dX7_of_113 : decode cX7_of 113 = .ok (.ireturn, 1) := by decide +kernel
theorem dX7_of_114 : decode cX7_of 114 = .ok (.aload 4, 2) := by decide +kernel
theorem dX7_of_116 : decode cX7_of 116 = .ok (.getfield 101, 3) := by decide +kernel
theorem dX7_of_119 : decode cX7_of 119 = .ok (.iload_n 1, 1) := by decide +kernel
theorem dX7_of_120 : decode cX7_of 120 = .ok (.invokestatic 104, 3) := by decide +kernel
theorem dX7_of_123 : decode cX7_of 123 = .ok (.invokestatic 108, 3) := by decide +kernel
theorem dX7_of_126 : decode cX7_of 126 = .ok (.ireturn, 1) := by decide +kernel
theorem dX7_of_127 : decode cX7_of 127 = .ok (.aload 4, 2) := by decide +kernel
theorem dX7_of_129 : decode cX7_of 129 = .ok (.iload_n 1, 1) := by decide +kernel
theorem dX7_of_130 : decode cX7_of 130 = .ok (.invokevirtual 112, 3) := by decide +kernel
theorem dX7_of_133 : decode cX7_of 133 = .ok (.ireturn, 1) := by decide +kernel
theorem dX7_of_134 : decode cX7_of 134 = .ok (.aload 4, 2) := by decide +kernel
theorem dX7_of_136 : decode cX7_of 136 = .ok (.getfield 115, 3) := by decide +kernel
theorem dX7_of_139 : decode cX7_of 139 = .ok (.iload_n 1, 1) := by decide +kernel
theorem dX7_of_140 : decode cX7_of 140 = .ok (.invokestatic 104, 3) := by decide +kernel
theorem dX7_of_143 : decode cX7_of 143 = .ok (.invokestatic 108, 3) := by decide +kernel
theorem dX7_of_146 : decode cX7_of 146 = .ok (.ireturn, 1) := by decide +kernel
theorem dX7_of_147 : decode cX7_of 147 = .ok (.aload_n 3, 1) := by decide +kernel
theorem dX7_of_148 : decode cX7_of 148 = .ok (.getfield 118, 3) := by decide +kernel
theorem dX7_of_151 : decode cX7_of 151 = .ok (.iload_n 1, 1) := by decide +kernel
theorem dX7_of_152 : decode cX7_of 152 = .ok (.invokestatic 104, 3) := by decide +kernel
theorem dX7_of_155 : decode cX7_of 155 = .ok (.invokestatic 108, 3) := by decide +kernel
theorem dX7_of_158 : decode cX7_of 158 = .ok (.ireturn, 1) := by decide +kernel
theorem dX7_of_159 : decode cX7_of 159 = .ok (.aload_n 3, 1) := by decide +kernel
theorem dX7_of_160 : decode cX7_of 160 = .ok (.iload_n 1, 1) := by decide +kernel
theorem dX7_of_161 : decode cX7_of 161 = .ok (.invokevirtual 121, 3) := by decide +kernel
theorem dX7_of_164 : decode cX7_of 164 = .ok (.ireturn, 1) := by decide +kernel
theorem dX7_of_165 : decode cX7_of 165 = .ok (.aload_n 3, 1) := by decide +kernel
theorem dX7_of_166 : decode cX7_of 166 = .ok (.iload_n 1, 1) := by decide +kernel
theorem dX7_of_167 : decode cX7_of 167 = .ok (.invokevirtual 98, 3) := by decide +kernel
theorem dX7_of_170 : decode cX7_of 170 = .ok (.invokestatic 124, 3) := by decide +kernel
theorem dX7_of_173 : decode cX7_of 173 = .ok (.ireturn, 1) := by decide +kernel
theorem dX7_of_174 : decode cX7_of 174 = .ok (.aload_n 0, 1) := by decide +kernel
theorem dX7_of_175 : decode cX7_of 175 = .ok (.iload_n 1, 1) := by decide +kernel
theorem dX7_of_176 : decode cX7_of 176 = .ok (.iload_n 2, 1) := by decide +kernel
theorem dX7_of_177 : decode cX7_of 177 = .ok (.invokevirtual 127, 3) := by decide +kernel
theorem dX7_of_180 : decode cX7_of 180 = .ok (.ireturn, 1) := by decide +kernel
theorem dX7_field_0 : decode cX7_field 0 = .ok (.aload_n 0, 1) := by decide +kernel
theorem dX7_field_1 : decode cX7_field 1 = .ok (.getfield 12, 3) := by decide +kernel
theorem dX7_field_4 : decode cX7_field 4 = .ok (.getfield 74, 3) := by decide +kernel
theorem dX7_field_7 : decode cX7_field 7 = .ok (.iload_n 1, 1) := by decide +kernel
theorem dX7_field_8 : decode cX7_field 8 = .ok (.iload_n 2, 1) := by decide +kernel
theorem dX7_field_9 : decode cX7_field 9 = .ok (.invokevirtual 130, 3) := by decide +kernel
theorem dX7_field_12 : decode cX7_field 12 = .ok (.ifCond .eq 18, 3) := by decide +kernel
theorem dX7_field_15 : decode cX7_field 15 = .ok (.aload_n 0, 1) := by decide +kernel
theorem dX7_field_16 : decode cX7_field 16 = .ok (.getfield 12, 3) := by decide +kernel
theorem dX7_field_19 : decode cX7_field 19 = .ok (.getfield 74, 3) := by decide +kernel
theorem dX7_field_22 : decode cX7_field 22 = .ok (.iload_n 1, 1) := by decide +kernel
theorem dX7_field_23 : decode cX7_field 23 = .ok (.iload_n 2, 1) := by decide +kernel
theorem dX7_field_24 : decode cX7_field 24 = .ok (.invokevirtual 133, 3) := by decide +kernel
theorem dX7_field_27 : decode cX7_field 27 = .ok (.goto 4, 3) := by decide +kernel
theorem dX7_field_30 : decode cX7_field 30 = .ok (.iconst (-1), 1) := by decide +kernel
theorem dX7_field_31 : decode cX7_field 31 = .ok (.ireturn, 1) := by decide +kernel
theorem dX7_raw_0 : decode cX7_raw 0 = .ok (.aload_n 0, 1) := by decide +kernel
theorem dX7_raw_1 : decode cX7_raw 1 = .ok (.getfield 12, 3) := by decide +kernel
theorem dX7_raw_4 : decode cX7_raw 4 = .ok (.getfield 74, 3) := by decide +kernel
theorem dX7_raw_7 : decode cX7_raw 7 = .ok (.iload_n 1, 1) := by decide +kernel
theorem dX7_raw_8 : decode cX7_raw 8 = .ok (.iload_n 2, 1) := by decide +kernel
theorem dX7_raw_9 : decode cX7_raw 9 = .ok (.invokevirtual 130, 3) := by decide +kernel
theorem dX7_raw_12 : decode cX7_raw 12 = .ok (.ifCond .ne 5, 3) := by decide +kernel
theorem dX7_raw_15 : decode cX7_raw 15 = .ok (.iconst (-1), 1) := by decide +kernel
theorem dX7_raw_16 : decode cX7_raw 16 = .ok (.ireturn, 1) := by decide +kernel
theorem dX7_raw_17 : decode cX7_raw 17 = .ok (.aload_n 0, 1) := by decide +kernel
theorem dX7_raw_18 : decode cX7_raw 18 = .ok (.getfield 12, 3) := by decide +kernel
theorem dX7_raw_21 : decode cX7_raw 21 = .ok (.getfield 68, 3) := by decide +kernel
theorem dX7_raw_24 : decode cX7_raw 24 = .ok (.iload_n 1, 1) := by decide +kernel
theorem dX7_raw_25 : decode cX7_raw 25 = .ok (.iload_n 2, 1) := by decide +kernel
theorem dX7_raw_26 : decode cX7_raw 26 = .ok (.invokevirtual 136, 3) := by decide +kernel
theorem dX7_raw_29 : decode cX7_raw 29 = .ok (.ifCond .eq 17, 3) := by decide +kernel
theorem dX7_raw_32 : decode cX7_raw 32 = .ok (.aload_n 0, 1) := by decide +kernel
theorem dX7_raw_33 : decode cX7_raw 33 = .ok (.getfield 12, 3) := by decide +kernel
theorem dX7_raw_36 : decode cX7_raw 36 = .ok (.getfield 68, 3) := by decide +kernel
theorem dX7_raw_39 : decode cX7_raw 39 = .ok (.iload_n 1, 1) := by decide +kernel
theorem dX7_raw_40 : decode cX7_raw 40 = .ok (.invokevirtual 139, 3) := by decide +kernel
theorem dX7_raw_43 : decode cX7_raw 43 = .ok (.goto 15, 3) := by decide +kernel
theorem dX7_raw_46 : decode cX7_raw 46 = .ok (.aload_n 0, 1) := by decide +kernel
theorem dX7_raw_47 : decode cX7_raw 47 = .ok (.getfield 12, 3) := by decide +kernel
theorem dX7_raw_50 : decode cX7_raw 50 = .ok (.getfield 74, 3) := by decide +kernel
theorem dX7_raw_53 : decode cX7_raw 53 = .ok (.iload_n 1, 1) := by decide +kernel
theorem dX7_raw_54 : decode cX7_raw 54 = .ok (.iload_n 2, 1) := by decide +kernel
theorem dX7_raw_55 : decode cX7_raw 55 = .ok (.invokevirtual 133, 3) := by decide +kernel
theorem dX7_raw_58 : decode cX7_raw 58 = .ok (.ireturn, 1) := by decide +kernel
theorem dX7_hold_0 : decode cX7_hold 0 = .ok (.aload_n 0, 1) := by decide +kernel
theorem dX7_hold_1 : decode cX7_hold 1 = .ok (.getfield 12, 3) := by decide +kernel
theorem dX7_hold_4 : decode cX7_hold 4 = .ok (.getfield 74, 3) := by decide +kernel
theorem dX7_hold_7 : decode cX7_hold 7 = .ok (.iload_n 1, 1) := by decide +kernel
theorem dX7_hold_8 : decode cX7_hold 8 = .ok (.iload_n 2, 1) := by decide +kernel
theorem dX7_hold_9 : decode cX7_hold 9 = .ok (.invokevirtual 130, 3) := by decide +kernel
theorem dX7_hold_12 : decode cX7_hold 12 = .ok (.ifCond .eq 17, 3) := by decide +kernel
theorem dX7_hold_15 : decode cX7_hold 15 = .ok (.aload_n 0, 1) := by decide +kernel
theorem dX7_hold_16 : decode cX7_hold 16 = .ok (.getfield 12, 3) := by decide +kernel
theorem dX7_hold_19 : decode cX7_hold 19 = .ok (.getfield 74, 3) := by decide +kernel
theorem dX7_hold_22 : decode cX7_hold 22 = .ok (.iload_n 3, 1) := by decide +kernel
theorem dX7_hold_23 : decode cX7_hold 23 = .ok (.invokevirtual 142, 3) := by decide +kernel
theorem dX7_hold_26 : decode cX7_hold 26 = .ok (.ifCond .ne 5, 3) := by decide +kernel
theorem dX7_hold_29 : decode cX7_hold 29 = .ok (.iconst (-1), 1) := by decide +kernel
theorem dX7_hold_30 : decode cX7_hold 30 = .ok (.ireturn, 1) := by decide +kernel
theorem dX7_hold_31 : decode cX7_hold 31 = .ok (.aload_n 0, 1) := by decide +kernel
theorem dX7_hold_32 : decode cX7_hold 32 = .ok (.getfield 12, 3) := by decide +kernel
theorem dX7_hold_35 : decode cX7_hold 35 = .ok (.getfield 68, 3) := by decide +kernel
theorem dX7_hold_38 : decode cX7_hold 38 = .ok (.getfield 71, 3) := by decide +kernel
theorem dX7_hold_41 : decode cX7_hold 41 = .ok (.ifCond .eq 6, 3) := by decide +kernel
theorem dX7_hold_44 : decode cX7_hold 44 = .ok (.bipush (-3), 2) := by decide +kernel
theorem dX7_hold_46 : decode cX7_hold 46 = .ok (.ireturn, 1) := by decide +kernel
theorem dX7_hold_47 : decode cX7_hold 47 = .ok (.aload_n 0, 1) := by decide +kernel
theorem dX7_hold_48 : decode cX7_hold 48 = .ok (.getfield 12, 3) := by decide +kernel
theorem dX7_hold_51 : decode cX7_hold 51 = .ok (.getfield 74, 3) := by decide +kernel
theorem dX7_hold_54 : decode cX7_hold 54 = .ok (.iload_n 1, 1) := by decide +kernel
theorem dX7_hold_55 : decode cX7_hold 55 = .ok (.iload_n 2, 1) := by decide +kernel
theorem dX7_hold_56 : decode cX7_hold 56 = .ok (.invokevirtual 133, 3) := by decide +kernel
theorem dX7_hold_59 : decode cX7_hold 59 = .ok (.istore 4, 2) := by decide +kernel
theorem dX7_hold_61 : decode cX7_hold 61 = .ok (.aload_n 0, 1) := by decide +kernel
theorem dX7_hold_62 : decode cX7_hold 62 = .ok (.getfield 12, 3) := by decide +kernel
theorem dX7_hold_65 : decode cX7_hold 65 = .ok (.getfield 74, 3) := by decide +kernel
theorem dX7_hold_68 : decode cX7_hold 68 = .ok (.iload_n 1, 1) := by decide +kernel
theorem dX7_hold_69 : decode cX7_hold 69 = .ok (.iload_n 2, 1) := by decide +kernel
theorem dX7_hold_70 : decode cX7_hold 70 = .ok (.iload_n 3, 1) := by decide +kernel
theorem dX7_hold_71 : decode cX7_hold 71 = .ok (.invokestatic 145, 3) := by decide +kernel
theorem dX7_hold_74 : decode cX7_hold 74 = .ok (.invokevirtual 148, 3) := by decide +kernel
theorem dX7_hold_77 : decode cX7_hold 77 = .ok (.aload_n 0, 1) := by decide +kernel
theorem dX7_hold_78 : decode cX7_hold 78 = .ok (.getfield 12, 3) := by decide +kernel
theorem dX7_hold_81 : decode cX7_hold 81 = .ok (.getfield 68, 3) := by decide +kernel
theorem dX7_hold_84 : decode cX7_hold 84 = .ok (.iconst 0, 1) := by decide +kernel
theorem dX7_hold_85 : decode cX7_hold 85 = .ok (.putfield 81, 3) := by decide +kernel
theorem dX7_hold_88 : decode cX7_hold 88 = .ok (.iload 4, 2) := by decide +kernel
theorem dX7_hold_90 : decode cX7_hold 90 = .ok (.ireturn, 1) := by decide +kernel
theorem dX7_tag_0 : decode cX7_tag 0 = .ok (.aload_n 0, 1) := by decide +kernel
theorem dX7_tag_1 : decode cX7_tag 1 = .ok (.getfield 12, 3) := by decide +kernel
theorem dX7_tag_4 : decode cX7_tag 4 = .ok (.getfield 74, 3) := by decide +kernel
theorem dX7_tag_7 : decode cX7_tag 7 = .ok (.iload_n 1, 1) := by decide +kernel
theorem dX7_tag_8 : decode cX7_tag 8 = .ok (.invokevirtual 88, 3) := by decide +kernel
theorem dX7_tag_11 : decode cX7_tag 11 = .ok (.ifCond .ne 5, 3) := by decide +kernel
theorem dX7_tag_14 : decode cX7_tag 14 = .ok (.iconst (-1), 1) := by decide +kernel
theorem dX7_tag_15 : decode cX7_tag 15 = .ok (.ireturn, 1) := by decide +kernel
theorem dX7_tag_16 : decode cX7_tag 16 = .ok (.iload_n 2, 1) := by decide +kernel
theorem dX7_tag_17 : decode cX7_tag 17 = .ok (.invokestatic 60, 3) := by decide +kernel
theorem dX7_tag_20 : decode cX7_tag 20 = .ok (.ifCond .ne 6, 3) := by decide +kernel
theorem dX7_tag_23 : decode cX7_tag 23 = .ok (.bipush (-2), 2) := by decide +kernel
theorem dX7_tag_25 : decode cX7_tag 25 = .ok (.ireturn, 1) := by decide +kernel
theorem dX7_tag_26 : decode cX7_tag 26 = .ok (.aload_n 0, 1) := by decide +kernel
theorem dX7_tag_27 : decode cX7_tag 27 = .ok (.getfield 12, 3) := by decide +kernel
theorem dX7_tag_30 : decode cX7_tag 30 = .ok (.getfield 68, 3) := by decide +kernel
theorem dX7_tag_33 : decode cX7_tag 33 = .ok (.getfield 71, 3) := by decide +kernel
theorem dX7_tag_36 : decode cX7_tag 36 = .ok (.ifCond .eq 6, 3) := by decide +kernel
theorem dX7_tag_39 : decode cX7_tag 39 = .ok (.bipush (-3), 2) := by decide +kernel
theorem dX7_tag_41 : decode cX7_tag 41 = .ok (.ireturn, 1) := by decide +kernel
theorem dX7_tag_42 : decode cX7_tag 42 = .ok (.aload_n 0, 1) := by decide +kernel
theorem dX7_tag_43 : decode cX7_tag 43 = .ok (.getfield 12, 3) := by decide +kernel
theorem dX7_tag_46 : decode cX7_tag 46 = .ok (.getfield 74, 3) := by decide +kernel
theorem dX7_tag_49 : decode cX7_tag 49 = .ok (.iload_n 1, 1) := by decide +kernel
theorem dX7_tag_50 : decode cX7_tag 50 = .ok (.invokevirtual 95, 3) := by decide +kernel
theorem dX7_tag_53 : decode cX7_tag 53 = .ok (.istore_n 3, 1) := by decide +kernel
theorem dX7_tag_54 : decode cX7_tag 54 = .ok (.aload_n 0, 1) := by decide +kernel
theorem dX7_tag_55 : decode cX7_tag 55 = .ok (.getfield 12, 3) := by decide +kernel
theorem dX7_tag_58 : decode cX7_tag 58 = .ok (.getfield 74, 3) := by decide +kernel
theorem dX7_tag_61 : decode cX7_tag 61 = .ok (.iload_n 1, 1) := by decide +kernel
theorem dX7_tag_62 : decode cX7_tag 62 = .ok (.iload_n 2, 1) := by decide +kernel
theorem dX7_tag_63 : decode cX7_tag 63 = .ok (.invokevirtual 152, 3) := by decide +kernel
theorem dX7_tag_66 : decode cX7_tag 66 = .ok (.aload_n 0, 1) := by decide +kernel
theorem dX7_tag_67 : decode cX7_tag 67 = .ok (.getfield 12, 3) := by decide +kernel
theorem dX7_tag_70 : decode cX7_tag 70 = .ok (.getfield 68, 3) := by decide +kernel
theorem dX7_tag_73 : decode cX7_tag 73 = .ok (.iconst 0, 1) := by decide +kernel
theorem dX7_tag_74 : decode cX7_tag 74 = .ok (.putfield 81, 3) := by decide +kernel
theorem dX7_tag_77 : decode cX7_tag 77 = .ok (.iload_n 3, 1) := by decide +kernel
theorem dX7_tag_78 : decode cX7_tag 78 = .ok (.ireturn, 1) := by decide +kernel
theorem dX7_root_0 : decode cX7_root 0 = .ok (.iload_n 1, 1) := by decide +kernel
theorem dX7_root_1 : decode cX7_root 1 = .ok (.invokestatic 156, 3) := by decide +kernel
theorem dX7_root_4 : decode cX7_root 4 = .ok (.ifCond .eq 17, 3) := by decide +kernel
theorem dX7_root_7 : decode cX7_root 7 = .ok (.aload_n 0, 1) := by decide +kernel
theorem dX7_root_8 : decode cX7_root 8 = .ok (.getfield 12, 3) := by decide +kernel
theorem dX7_root_11 : decode cX7_root 11 = .ok (.getfield 74, 3) := by decide +kernel
theorem dX7_root_14 : decode cX7_root 14 = .ok (.iload_n 2, 1) := by decide +kernel
theorem dX7_root_15 : decode cX7_root 15 = .ok (.invokevirtual 142, 3) := by decide +kernel
theorem dX7_root_18 : decode cX7_root 18 = .ok (.ifCond .ne 5, 3) := by decide +kernel
theorem dX7_root_21 : decode cX7_root 21 = .ok (.iconst (-1), 1) := by decide +kernel
theorem dX7_root_22 : decode cX7_root 22 = .ok (.ireturn, 1) := by decide +kernel
theorem dX7_root_23 : decode cX7_root 23 = .ok (.aload_n 0, 1) := by decide +kernel
theorem dX7_root_24 : decode cX7_root 24 = .ok (.getfield 12, 3) := by decide +kernel
theorem dX7_root_27 : decode cX7_root 27 = .ok (.getfield 68, 3) := by decide +kernel
theorem dX7_root_30 : decode cX7_root 30 = .ok (.getfield 71, 3) := by decide +kernel
theorem dX7_root_33 : decode cX7_root 33 = .ok (.ifCond .eq 6, 3) := by decide +kernel
theorem dX7_root_36 : decode cX7_root 36 = .ok (.bipush (-3), 2) := by decide +kernel
theorem dX7_root_38 : decode cX7_root 38 = .ok (.ireturn, 1) := by decide +kernel
theorem dX7_root_39 : decode cX7_root 39 = .ok (.aload_n 0, 1) := by decide +kernel
theorem dX7_root_40 : decode cX7_root 40 = .ok (.getfield 12, 3) := by decide +kernel
theorem dX7_root_43 : decode cX7_root 43 = .ok (.getfield 74, 3) := by decide +kernel
theorem dX7_root_46 : decode cX7_root 46 = .ok (.iload_n 1, 1) := by decide +kernel
theorem dX7_root_47 : decode cX7_root 47 = .ok (.invokevirtual 159, 3) := by decide +kernel
theorem dX7_root_50 : decode cX7_root 50 = .ok (.istore_n 3, 1) := by decide +kernel
theorem dX7_root_51 : decode cX7_root 51 = .ok (.aload_n 0, 1) := by decide +kernel
theorem dX7_root_52 : decode cX7_root 52 = .ok (.getfield 12, 3) := by decide +kernel
theorem dX7_root_55 : decode cX7_root 55 = .ok (.getfield 74, 3) := by decide +kernel
theorem dX7_root_58 : decode cX7_root 58 = .ok (.iload_n 1, 1) := by decide +kernel
theorem dX7_root_59 : decode cX7_root 59 = .ok (.iload_n 2, 1) := by decide +kernel
theorem dX7_root_60 : decode cX7_root 60 = .ok (.invokestatic 145, 3) := by decide +kernel
theorem dX7_root_63 : decode cX7_root 63 = .ok (.invokevirtual 162, 3) := by decide +kernel
theorem dX7_root_66 : decode cX7_root 66 = .ok (.aload_n 0, 1) := by decide +kernel
theorem dX7_root_67 : decode cX7_root 67 = .ok (.getfield 12, 3) := by decide +kernel
theorem dX7_root_70 : decode cX7_root 70 = .ok (.getfield 68, 3) := by decide +kernel
theorem dX7_root_73 : decode cX7_root 73 = .ok (.iconst 0, 1) := by decide +kernel
theorem dX7_root_74 : decode cX7_root 74 = .ok (.putfield 81, 3) := by decide +kernel
theorem dX7_root_77 : decode cX7_root 77 = .ok (.iload_n 3, 1) := by decide +kernel
theorem dX7_root_78 : decode cX7_root 78 = .ok (.ireturn, 1) := by decide +kernel
theorem dX7_pin_0 : decode cX7_pin 0 = .ok (.aload_n 0, 1) := by decide +kernel
theorem dX7_pin_1 : decode cX7_pin 1 = .ok (.getfield 12, 3) := by decide +kernel
theorem dX7_pin_4 : decode cX7_pin 4 = .ok (.getfield 74, 3) := by decide +kernel
theorem dX7_pin_7 : decode cX7_pin 7 = .ok (.iload_n 1, 1) := by decide +kernel
theorem dX7_pin_8 : decode cX7_pin 8 = .ok (.invokevirtual 88, 3) := by decide +kernel
theorem dX7_pin_11 : decode cX7_pin 11 = .ok (.ifCond .ne 5, 3) := by decide +kernel
theorem dX7_pin_14 : decode cX7_pin 14 = .ok (.iconst (-1), 1) := by decide +kernel
theorem dX7_pin_15 : decode cX7_pin 15 = .ok (.ireturn, 1) := by decide +kernel
theorem dX7_pin_16 : decode cX7_pin 16 = .ok (.aload_n 0, 1) := by decide +kernel
theorem dX7_pin_17 : decode cX7_pin 17 = .ok (.getfield 12, 3) := by decide +kernel
theorem dX7_pin_20 : decode cX7_pin 20 = .ok (.getfield 68, 3) := by decide +kernel
theorem dX7_pin_23 : decode cX7_pin 23 = .ok (.iload_n 1, 1) := by decide +kernel
theorem dX7_pin_24 : decode cX7_pin 24 = .ok (.invokevirtual 165, 3) := by decide +kernel
theorem dX7_pin_27 : decode cX7_pin 27 = .ok (.ifCond .eq 6, 3) := by decide +kernel
theorem dX7_pin_30 : decode cX7_pin 30 = .ok (.bipush (-3), 2) := by decide +kernel
theorem dX7_pin_32 : decode cX7_pin 32 = .ok (.ireturn, 1) := by decide +kernel
theorem dX7_pin_33 : decode cX7_pin 33 = .ok (.aload_n 0, 1) := by decide +kernel
theorem dX7_pin_34 : decode cX7_pin 34 = .ok (.getfield 12, 3) := by decide +kernel
theorem dX7_pin_37 : decode cX7_pin 37 = .ok (.getfield 74, 3) := by decide +kernel
theorem dX7_pin_40 : decode cX7_pin 40 = .ok (.getfield 118, 3) := by decide +kernel
theorem dX7_pin_43 : decode cX7_pin 43 = .ok (.iload_n 1, 1) := by decide +kernel
theorem dX7_pin_44 : decode cX7_pin 44 = .ok (.invokestatic 104, 3) := by decide +kernel
theorem dX7_pin_47 : decode cX7_pin 47 = .ok (.istore_n 3, 1) := by decide +kernel
theorem dX7_pin_48 : decode cX7_pin 48 = .ok (.aload_n 0, 1) := by decide +kernel
theorem dX7_pin_49 : decode cX7_pin 49 = .ok (.getfield 12, 3) := by decide +kernel
theorem dX7_pin_52 : decode cX7_pin 52 = .ok (.getfield 74, 3) := by decide +kernel
theorem dX7_pin_55 : decode cX7_pin 55 = .ok (.iload_n 2, 1) := by decide +kernel
theorem dX7_pin_56 : decode cX7_pin 56 = .ok (.ifCond .eq 21, 3) := by decide +kernel
theorem dX7_pin_59 : decode cX7_pin 59 = .ok (.aload_n 0, 1) := by decide +kernel
theorem dX7_pin_60 : decode cX7_pin 60 = .ok (.getfield 12, 3) := by decide +kernel
theorem dX7_pin_63 : decode cX7_pin 63 = .ok (.getfield 74, 3) := by decide +kernel
theorem dX7_pin_66 : decode cX7_pin 66 = .ok (.getfield 118, 3) := by decide +kernel
theorem dX7_pin_69 : decode cX7_pin 69 = .ok (.iload_n 1, 1) := by decide +kernel
theorem dX7_pin_70 : decode cX7_pin 70 = .ok (.invokestatic 168, 3) := by decide +kernel
theorem dX7_pin_73 : decode cX7_pin 73 = .ok (.ior, 1) := by decide +kernel
theorem dX7_pin_74 : decode cX7_pin 74 = .ok (.goto 20, 3) := by decide +kernel
theorem dX7_pin_77 : decode cX7_pin 77 = .ok (.aload_n 0, 1) := by decide +kernel
theorem dX7_pin_78 : decode cX7_pin 78 = .ok (.getfield 12, 3) := by decide +kernel
theorem dX7_pin_81 : decode cX7_pin 81 = .ok (.getfield 74, 3) := by decide +kernel
theorem dX7_pin_84 : decode cX7_pin 84 = .ok (.getfield 118, 3) := by decide +kernel
theorem dX7_pin_87 : decode cX7_pin 87 = .ok (.iload_n 1, 1) := by decide +kernel
theorem dX7_pin_88 : decode cX7_pin 88 = .ok (.invokestatic 168, 3) := by decide +kernel
theorem dX7_pin_91 : decode cX7_pin 91 = .ok (.iconst (-1), 1) := by decide +kernel
theorem dX7_pin_92 : decode cX7_pin 92 = .ok (.ixor, 1) := by decide +kernel
theorem dX7_pin_93 : decode cX7_pin 93 = .ok (.iand, 1) := by decide +kernel
theorem dX7_pin_94 : decode cX7_pin 94 = .ok (.putfield 118, 3) := by decide +kernel
theorem dX7_pin_97 : decode cX7_pin 97 = .ok (.iload_n 3, 1) := by decide +kernel
theorem dX7_pin_98 : decode cX7_pin 98 = .ok (.invokestatic 108, 3) := by decide +kernel
theorem dX7_pin_101 : decode cX7_pin 101 = .ok (.ireturn, 1) := by decide +kernel
theorem dX7_feed_0 : decode cX7_feed 0 = .ok (.iload_n 1, 1) := by decide +kernel
theorem dX7_feed_1 : decode cX7_feed 1 = .ok (.ifCond .lt 9, 3) := by decide +kernel
theorem dX7_feed_4 : decode cX7_feed 4 = .ok (.iload_n 1, 1) := by decide +kernel
theorem dX7_feed_5 : decode cX7_feed 5 = .ok (.bipush 127, 2) := by decide +kernel
theorem dX7_feed_7 : decode cX7_feed 7 = .ok (.if_icmp .le 6, 3) := by decide +kernel
theorem dX7_feed_10 : decode cX7_feed 10 = .ok (.bipush (-2), 2) := by decide +kernel
theorem dX7_feed_12 : decode cX7_feed 12 = .ok (.ireturn, 1) := by decide +kernel
theorem dX7_feed_13 : decode cX7_feed 13 = .ok (.aload_n 0, 1) := by decide +kernel
theorem dX7_feed_14 : decode cX7_feed 14 = .ok (.getfield 49, 3) := by decide +kernel
theorem dX7_feed_17 : decode cX7_feed 17 = .ok (.iload_n 1, 1) := by decide +kernel
theorem dX7_feed_18 : decode cX7_feed 18 = .ok (.invokevirtual 171, 3) := by decide +kernel
theorem dX7_feed_21 : decode cX7_feed 21 = .ok (.ifCond .eq 13, 3) := by decide +kernel
theorem dX7_feed_24 : decode cX7_feed 24 = .ok (.aload_n 0, 1) := by decide +kernel
theorem dX7_feed_25 : decode cX7_feed 25 = .ok (.getfield 49, 3) := by decide +kernel
theorem dX7_feed_28 : decode cX7_feed 28 = .ok (.getfield 174, 3) := by decide +kernel
theorem dX7_feed_31 : decode cX7_feed 31 = .ok (.goto 5, 3) := by decide +kernel
theorem dX7_feed_34 : decode cX7_feed 34 = .ok (.bipush (-4), 2) := by decide +kernel
theorem dX7_feed_36 : decode cX7_feed 36 = .ok (.ireturn, 1) := by decide +kernel
theorem dX7_build_0 : decode cX7_build 0 = .ok (.iload_n 1, 1) := by decide +kernel
theorem dX7_build_1 : decode cX7_build 1 = .ok (.invokestatic 156, 3) := by decide +kernel
theorem dX7_build_4 : decode cX7_build 4 = .ok (.ifCond .ne 5, 3) := by decide +kernel
theorem dX7_build_7 : decode cX7_build 7 = .ok (.iconst (-1), 1) := by decide +kernel
theorem dX7_build_8 : decode cX7_build 8 = .ok (.ireturn, 1) := by decide +kernel
theorem dX7_build_9 : decode cX7_build 9 = .ok (.aload_n 0, 1) := by decide +kernel
theorem dX7_build_10 : decode cX7_build 10 = .ok (.getfield 12, 3) := by decide +kernel
theorem dX7_build_13 : decode cX7_build 13 = .ok (.getfield 68, 3) := by decide +kernel
theorem dX7_build_16 : decode cX7_build 16 = .ok (.getfield 71, 3) := by decide +kernel
theorem dX7_build_19 : decode cX7_build 19 = .ok (.ifCond .eq 6, 3) := by decide +kernel
theorem dX7_build_22 : decode cX7_build 22 = .ok (.bipush (-3), 2) := by decide +kernel
theorem dX7_build_24 : decode cX7_build 24 = .ok (.ireturn, 1) := by decide +kernel
theorem dX7_build_25 : decode cX7_build 25 = .ok (.aload_n 0, 1) := by decide +kernel
theorem dX7_build_26 : decode cX7_build 26 = .ok (.getfield 28, 3) := by decide +kernel
theorem dX7_build_29 : decode cX7_build 29 = .ok (.aload_n 0, 1) := by decide +kernel
theorem dX7_build_30 : decode cX7_build 30 = .ok (.getfield 12, 3) := by decide +kernel
theorem dX7_build_33 : decode cX7_build 33 = .ok (.getfield 74, 3) := by decide +kernel
theorem dX7_build_36 : decode cX7_build 36 = .ok (.invokevirtual 177, 3) := by decide +kernel
theorem dX7_build_39 : decode cX7_build 39 = .ok (.aload_n 0, 1) := by decide +kernel
theorem dX7_build_40 : decode cX7_build 40 = .ok (.getfield 49, 3) := by decide +kernel
theorem dX7_build_43 : decode cX7_build 43 = .ok (.aload_n 0, 1) := by decide +kernel
theorem dX7_build_44 : decode cX7_build 44 = .ok (.getfield 28, 3) := by decide +kernel
theorem dX7_build_47 : decode cX7_build 47 = .ok (.aload_n 0, 1) := by decide +kernel
theorem dX7_build_48 : decode cX7_build 48 = .ok (.getfield 12, 3) := by decide +kernel
theorem dX7_build_51 : decode cX7_build 51 = .ok (.getfield 74, 3) := by decide +kernel
theorem dX7_build_54 : decode cX7_build 54 = .ok (.getfield 181, 3) := by decide +kernel
theorem dX7_build_57 : decode cX7_build 57 = .ok (.invokevirtual 184, 3) := by decide +kernel
theorem dX7_build_60 : decode cX7_build 60 = .ok (.istore_n 2, 1) := by decide +kernel
theorem dX7_build_61 : decode cX7_build 61 = .ok (.aload_n 0, 1) := by decide +kernel
theorem dX7_build_62 : decode cX7_build 62 = .ok (.getfield 49, 3) := by decide +kernel
theorem dX7_build_65 : decode cX7_build 65 = .ok (.iconst 0, 1) := by decide +kernel
theorem dX7_build_66 : decode cX7_build 66 = .ok (.putfield 174, 3) := by decide +kernel
theorem dX7_build_69 : decode cX7_build 69 = .ok (.iload_n 2, 1) := by decide +kernel
theorem dX7_build_70 : decode cX7_build 70 = .ok (.ifCond .lt 8, 3) := by decide +kernel
theorem dX7_build_73 : decode cX7_build 73 = .ok (.bipush (-10), 2) := by decide +kernel
theorem dX7_build_75 : decode cX7_build 75 = .ok (.iload_n 2, 1) := by decide +kernel
theorem dX7_build_76 : decode cX7_build 76 = .ok (.isub, 1) := by decide +kernel
theorem dX7_build_77 : decode cX7_build 77 = .ok (.ireturn, 1) := by decide +kernel
theorem dX7_build_78 : decode cX7_build 78 = .ok (.aload_n 0, 1) := by decide +kernel
theorem dX7_build_79 : decode cX7_build 79 = .ok (.getfield 12, 3) := by decide +kernel
theorem dX7_build_82 : decode cX7_build 82 = .ok (.getfield 74, 3) := by decide +kernel
theorem dX7_build_85 : decode cX7_build 85 = .ok (.getfield 77, 3) := by decide +kernel
theorem dX7_build_88 : decode cX7_build 88 = .ok (.aload_n 0, 1) := by decide +kernel
theorem dX7_build_89 : decode cX7_build 89 = .ok (.getfield 49, 3) := by decide +kernel
theorem dX7_build_92 : decode cX7_build 92 = .ok (.getfield 188, 3) := by decide +kernel
theorem dX7_build_95 : decode cX7_build 95 = .ok (.iadd, 1) := by decide +kernel
theorem dX7_build_96 : decode cX7_build 96 = .ok (.bipush 24, 2) := by decide +kernel
theorem dX7_build_98 : decode cX7_build 98 = .ok (.if_icmp .le 6, 3) := by decide +kernel
theorem dX7_build_101 : decode cX7_build 101 = .ok (.bipush (-4), 2) := by decide +kernel
theorem dX7_build_103 : decode cX7_build 103 = .ok (.ireturn, 1) := by decide +kernel
theorem dX7_build_104 : decode cX7_build 104 = .ok (.aload_n 0, 1) := by decide +kernel
theorem dX7_build_105 : decode cX7_build 105 = .ok (.getfield 28, 3) := by decide +kernel
theorem dX7_build_108 : decode cX7_build 108 = .ok (.iload_n 1, 1) := by decide +kernel
theorem dX7_build_109 : decode cX7_build 109 = .ok (.aload_n 0, 1) := by decide +kernel
theorem dX7_build_110 : decode cX7_build 110 = .ok (.getfield 49, 3) := by decide +kernel
theorem dX7_build_113 : decode cX7_build 113 = .ok (.getfield 191, 3) := by decide +kernel
theorem dX7_build_116 : decode cX7_build 116 = .ok (.invokevirtual 162, 3) := by decide +kernel
theorem dX7_build_119 : decode cX7_build 119 = .ok (.aload_n 0, 1) := by decide +kernel
theorem dX7_build_120 : decode cX7_build 120 = .ok (.getfield 12, 3) := by decide +kernel
theorem dX7_build_123 : decode cX7_build 123 = .ok (.getfield 74, 3) := by decide +kernel
theorem dX7_build_126 : decode cX7_build 126 = .ok (.aload_n 0, 1) := by decide +kernel
theorem dX7_build_127 : decode cX7_build 127 = .ok (.getfield 28, 3) := by decide +kernel
theorem dX7_build_130 : decode cX7_build 130 = .ok (.invokevirtual 177, 3) := by decide +kernel
theorem dX7_build_133 : decode cX7_build 133 = .ok (.aload_n 0, 1) := by decide +kernel
theorem dX7_build_134 : decode cX7_build 134 = .ok (.getfield 12, 3) := by decide +kernel
theorem dX7_build_137 : decode cX7_build 137 = .ok (.getfield 68, 3) := by decide +kernel
theorem dX7_build_140 : decode cX7_build 140 = .ok (.iconst 0, 1) := by decide +kernel
theorem dX7_build_141 : decode cX7_build 141 = .ok (.putfield 81, 3) := by decide +kernel
theorem dX7_build_144 : decode cX7_build 144 = .ok (.aload_n 0, 1) := by decide +kernel
theorem dX7_build_145 : decode cX7_build 145 = .ok (.getfield 49, 3) := by decide +kernel
theorem dX7_build_148 : decode cX7_build 148 = .ok (.getfield 188, 3) := by decide +kernel
theorem dX7_build_151 : decode cX7_build 151 = .ok (.ireturn, 1) := by decide +kernel
theorem dX7_begin_0 : decode cX7_begin 0 = .ok (.iload_n 1, 1) := by decide +kernel
theorem dX7_begin_1 : decode cX7_begin 1 = .ok (.invokestatic 194, 3) := by decide +kernel
theorem dX7_begin_4 : decode cX7_begin 4 = .ok (.ifCond .ne 6, 3) := by decide +kernel
theorem dX7_begin_7 : decode cX7_begin 7 = .ok (.bipush (-2), 2) := by decide +kernel
theorem dX7_begin_9 : decode cX7_begin 9 = .ok (.ireturn, 1) := by decide +kernel
theorem dX7_begin_10 : decode cX7_begin 10 = .ok (.aload_n 0, 1) := by decide +kernel
theorem dX7_begin_11 : decode cX7_begin 11 = .ok (.getfield 12, 3) := by decide +kernel
theorem dX7_begin_14 : decode cX7_begin 14 = .ok (.getfield 68, 3) := by decide +kernel
theorem dX7_begin_17 : decode cX7_begin 17 = .ok (.getfield 71, 3) := by decide +kernel
theorem dX7_begin_20 : decode cX7_begin 20 = .ok (.ifCond .eq 6, 3) := by decide +kernel
theorem dX7_begin_23 : decode cX7_begin 23 = .ok (.bipush (-3), 2) := by decide +kernel
theorem dX7_begin_25 : decode cX7_begin 25 = .ok (.ireturn, 1) := by decide +kernel
theorem dX7_begin_26 : decode cX7_begin 26 = .ok (.aload_n 0, 1) := by decide +kernel
theorem dX7_begin_27 : decode cX7_begin 27 = .ok (.getfield 12, 3) := by decide +kernel
theorem dX7_begin_30 : decode cX7_begin 30 = .ok (.getfield 68, 3) := by decide +kernel
theorem dX7_begin_33 : decode cX7_begin 33 = .ok (.iload_n 1, 1) := by decide +kernel
theorem dX7_begin_34 : decode cX7_begin 34 = .ok (.invokevirtual 197, 3) := by decide +kernel
theorem dX7_begin_37 : decode cX7_begin 37 = .ok (.aload_n 0, 1) := by decide +kernel
theorem dX7_begin_38 : decode cX7_begin 38 = .ok (.getfield 12, 3) := by decide +kernel
theorem dX7_begin_41 : decode cX7_begin 41 = .ok (.getfield 74, 3) := by decide +kernel
theorem dX7_begin_44 : decode cX7_begin 44 = .ok (.getfield 181, 3) := by decide +kernel
theorem dX7_begin_47 : decode cX7_begin 47 = .ok (.invokestatic 201, 3) := by decide +kernel
theorem dX7_begin_50 : decode cX7_begin 50 = .ok (.ireturn, 1) := by decide +kernel
theorem dX7_step_0 : decode cX7_step 0 = .ok (.iload_n 1, 1) := by decide +kernel
theorem dX7_step_1 : decode cX7_step 1 = .ok (.ifCond .lt 9, 3) := by decide +kernel
theorem dX7_step_4 : decode cX7_step 4 = .ok (.iload_n 1, 1) := by decide +kernel
theorem dX7_step_5 : decode cX7_step 5 = .ok (.bipush 99, 2) := by decide +kernel
theorem dX7_step_7 : decode cX7_step 7 = .ok (.if_icmp .le 6, 3) := by decide +kernel
theorem dX7_step_10 : decode cX7_step 10 = .ok (.bipush (-2), 2) := by decide +kernel
theorem dX7_step_12 : decode cX7_step 12 = .ok (.ireturn, 1) := by decide +kernel
theorem dX7_step_13 : decode cX7_step 13 = .ok (.aload_n 0, 1) := by decide +kernel
theorem dX7_step_14 : decode cX7_step 14 = .ok (.getfield 12, 3) := by decide +kernel
theorem dX7_step_17 : decode cX7_step 17 = .ok (.getfield 68, 3) := by decide +kernel
theorem dX7_step_20 : decode cX7_step 20 = .ok (.getfield 71, 3) := by decide +kernel
theorem dX7_step_23 : decode cX7_step 23 = .ok (.ifCond .eq 24, 3) := by decide +kernel
theorem dX7_step_26 : decode cX7_step 26 = .ok (.aload_n 0, 1) := by decide +kernel
theorem dX7_step_27 : decode cX7_step 27 = .ok (.getfield 12, 3) := by decide +kernel
theorem dX7_step_30 : decode cX7_step 30 = .ok (.getfield 68, 3) := by decide +kernel
theorem dX7_step_33 : decode cX7_step 33 = .ok (.aload_n 0, 1) := by decide +kernel
theorem dX7_step_34 : decode cX7_step 34 = .ok (.getfield 12, 3) := by decide +kernel
theorem dX7_step_37 : decode cX7_step 37 = .ok (.getfield 74, 3) := by decide +kernel
theorem dX7_step_40 : decode cX7_step 40 = .ok (.iload_n 1, 1) := by decide +kernel
theorem dX7_step_41 : decode cX7_step 41 = .ok (.invokevirtual 206, 3) := by decide +kernel
theorem dX7_step_44 : decode cX7_step 44 = .ok (.goto 5, 3) := by decide +kernel
theorem dX7_step_47 : decode cX7_step 47 = .ok (.bipush (-3), 2) := by decide +kernel
theorem dX7_step_49 : decode cX7_step 49 = .ok (.ireturn, 1) := by decide +kernel
theorem dX7_leave_0 : decode cX7_leave 0 = .ok (.aload_n 0, 1) := by decide +kernel
theorem dX7_leave_1 : decode cX7_leave 1 = .ok (.getfield 12, 3) := by decide +kernel
theorem dX7_leave_4 : decode cX7_leave 4 = .ok (.getfield 68, 3) := by decide +kernel
theorem dX7_leave_7 : decode cX7_leave 7 = .ok (.getfield 71, 3) := by decide +kernel
theorem dX7_leave_10 : decode cX7_leave 10 = .ok (.ifCond .ne 6, 3) := by decide +kernel
theorem dX7_leave_13 : decode cX7_leave 13 = .ok (.bipush (-3), 2) := by decide +kernel
theorem dX7_leave_15 : decode cX7_leave 15 = .ok (.ireturn, 1) := by decide +kernel
theorem dX7_leave_16 : decode cX7_leave 16 = .ok (.aload_n 0, 1) := by decide +kernel
theorem dX7_leave_17 : decode cX7_leave 17 = .ok (.getfield 12, 3) := by decide +kernel
theorem dX7_leave_20 : decode cX7_leave 20 = .ok (.getfield 68, 3) := by decide +kernel
theorem dX7_leave_23 : decode cX7_leave 23 = .ok (.invokevirtual 209, 3) := by decide +kernel
theorem dX7_leave_26 : decode cX7_leave 26 = .ok (.istore_n 1, 1) := by decide +kernel
theorem dX7_leave_27 : decode cX7_leave 27 = .ok (.aload_n 0, 1) := by decide +kernel
theorem dX7_leave_28 : decode cX7_leave 28 = .ok (.getfield 12, 3) := by decide +kernel
theorem dX7_leave_31 : decode cX7_leave 31 = .ok (.getfield 68, 3) := by decide +kernel
theorem dX7_leave_34 : decode cX7_leave 34 = .ok (.invokevirtual 213, 3) := by decide +kernel
theorem dX7_leave_37 : decode cX7_leave 37 = .ok (.iload_n 1, 1) := by decide +kernel
theorem dX7_leave_38 : decode cX7_leave 38 = .ok (.ireturn, 1) := by decide +kernel
theorem dX7_sweep_0 : decode cX7_sweep 0 = .ok (.aload_n 0, 1) := by decide +kernel
theorem dX7_sweep_1 : decode cX7_sweep 1 = .ok (.getfield 12, 3) := by decide +kernel
theorem dX7_sweep_4 : decode cX7_sweep 4 = .ok (.getfield 68, 3) := by decide +kernel
theorem dX7_sweep_7 : decode cX7_sweep 7 = .ok (.getfield 81, 3) := by decide +kernel
theorem dX7_sweep_10 : decode cX7_sweep 10 = .ok (.ifCond .ne 6, 3) := by decide +kernel
theorem dX7_sweep_13 : decode cX7_sweep 13 = .ok (.bipush (-3), 2) := by decide +kernel
theorem dX7_sweep_15 : decode cX7_sweep 15 = .ok (.ireturn, 1) := by decide +kernel
theorem dX7_sweep_16 : decode cX7_sweep 16 = .ok (.aload_n 0, 1) := by decide +kernel
theorem dX7_sweep_17 : decode cX7_sweep 17 = .ok (.getfield 12, 3) := by decide +kernel
theorem dX7_sweep_20 : decode cX7_sweep 20 = .ok (.getfield 74, 3) := by decide +kernel
theorem dX7_sweep_23 : decode cX7_sweep 23 = .ok (.aload_n 0, 1) := by decide +kernel
theorem dX7_sweep_24 : decode cX7_sweep 24 = .ok (.getfield 12, 3) := by decide +kernel
theorem dX7_sweep_27 : decode cX7_sweep 27 = .ok (.getfield 68, 3) := by decide +kernel
theorem dX7_sweep_30 : decode cX7_sweep 30 = .ok (.getfield 101, 3) := by decide +kernel
theorem dX7_sweep_33 : decode cX7_sweep 33 = .ok (.invokevirtual 216, 3) := by decide +kernel
theorem dX7_sweep_36 : decode cX7_sweep 36 = .ok (.istore_n 1, 1) := by decide +kernel
theorem dX7_sweep_37 : decode cX7_sweep 37 = .ok (.aload_n 0, 1) := by decide +kernel
theorem dX7_sweep_38 : decode cX7_sweep 38 = .ok (.getfield 12, 3) := by decide +kernel
theorem dX7_sweep_41 : decode cX7_sweep 41 = .ok (.getfield 68, 3) := by decide +kernel
theorem dX7_sweep_44 : decode cX7_sweep 44 = .ok (.iconst 0, 1) := by decide +kernel
theorem dX7_sweep_45 : decode cX7_sweep 45 = .ok (.putfield 101, 3) := by decide +kernel
theorem dX7_sweep_48 : decode cX7_sweep 48 = .ok (.aload_n 0, 1) := by decide +kernel
theorem dX7_sweep_49 : decode cX7_sweep 49 = .ok (.getfield 12, 3) := by decide +kernel
theorem dX7_sweep_52 : decode cX7_sweep 52 = .ok (.getfield 68, 3) := by decide +kernel
theorem dX7_sweep_55 : decode cX7_sweep 55 = .ok (.iconst 0, 1) := by decide +kernel
theorem dX7_sweep_56 : decode cX7_sweep 56 = .ok (.putfield 81, 3) := by decide +kernel
theorem dX7_sweep_59 : decode cX7_sweep 59 = .ok (.iload_n 1, 1) := by decide +kernel
theorem dX7_sweep_60 : decode cX7_sweep 60 = .ok (.ireturn, 1) := by decide +kernel
theorem dX7_told_0 : decode cX7_told 0 = .ok (.iload_n 1, 1) := by decide +kernel
theorem dX7_told_1 : decode cX7_told 1 = .ok (.tableswitch 129 8 18 #[59, 70, 81, 129, 129, 103, 129, 114, 114, 114, 114], 59) := by decide +kernel
theorem dX7_told_60 : decode cX7_told 60 = .ok (.aload_n 0, 1) := by decide +kernel
theorem dX7_told_61 : decode cX7_told 61 = .ok (.getfield 12, 3) := by decide +kernel
theorem dX7_told_64 : decode cX7_told 64 = .ok (.getfield 68, 3) := by decide +kernel
theorem dX7_told_67 : decode cX7_told 67 = .ok (.getfield 101, 3) := by decide +kernel
theorem dX7_told_70 : decode cX7_told 70 = .ok (.ireturn, 1) := by decide +kernel
theorem dX7_told_71 : decode cX7_told 71 = .ok (.aload_n 0, 1) := by decide +kernel
theorem dX7_told_72 : decode cX7_told 72 = .ok (.getfield 12, 3) := by decide +kernel
theorem dX7_told_75 : decode cX7_told 75 = .ok (.getfield 68, 3) := by decide +kernel
theorem dX7_told_78 : decode cX7_told 78 = .ok (.getfield 115, 3) := by decide +kernel
theorem dX7_told_81 : decode cX7_told 81 = .ok (.ireturn, 1) := by decide +kernel
theorem dX7_told_82 : decode cX7_told 82 = .ok (.aload_n 0, 1) := by decide +kernel
theorem dX7_told_83 : decode cX7_told 83 = .ok (.getfield 42, 3) := by decide +kernel
theorem dX7_told_86 : decode cX7_told 86 = .ok (.aload_n 0, 1) := by decide +kernel
theorem dX7_told_87 : decode cX7_told 87 = .ok (.getfield 12, 3) := by decide +kernel
theorem dX7_told_90 : decode cX7_told 90 = .ok (.getfield 74, 3) := by decide +kernel
theorem dX7_told_93 : decode cX7_told 93 = .ok (.invokevirtual 219, 3) := by decide +kernel
theorem dX7_told_96 : decode cX7_told 96 = .ok (.aload_n 0, 1) := by decide +kernel
theorem dX7_told_97 : decode cX7_told 97 = .ok (.getfield 42, 3) := by decide +kernel
theorem dX7_told_100 : decode cX7_told 100 = .ok (.invokevirtual 222, 3) := by decide +kernel
theorem dX7_told_103 : decode cX7_told 103 = .ok (.ireturn, 1) := by decide +kernel
theorem dX7_told_104 : decode cX7_told 104 = .ok (.aload_n 0, 1) := by decide +kernel
theorem dX7_told_105 : decode cX7_told 105 = .ok (.getfield 12, 3) := by decide +kernel
theorem dX7_told_108 : decode cX7_told 108 = .ok (.getfield 74, 3) := by decide +kernel
theorem dX7_told_111 : decode cX7_told 111 = .ok (.getfield 181, 3) := by decide +kernel
theorem dX7_told_114 : decode cX7_told 114 = .ok (.ireturn, 1) := by decide +kernel
theorem dX7_told_115 : decode cX7_told 115 = .ok (.aload_n 0, 1) := by decide +kernel
theorem dX7_told_116 : decode cX7_told 116 = .ok (.getfield 12, 3) := by decide +kernel
theorem dX7_told_119 : decode cX7_told 119 = .ok (.getfield 74, 3) := by decide +kernel
theorem dX7_told_122 : decode cX7_told 122 = .ok (.iload_n 1, 1) := by decide +kernel
theorem dX7_told_123 : decode cX7_told 123 = .ok (.bipush 15, 2) := by decide +kernel
theorem dX7_told_125 : decode cX7_told 125 = .ok (.isub, 1) := by decide +kernel
theorem dX7_told_126 : decode cX7_told 126 = .ok (.invokevirtual 159, 3) := by decide +kernel
theorem dX7_told_129 : decode cX7_told 129 = .ok (.ireturn, 1) := by decide +kernel
theorem dX7_told_130 : decode cX7_told 130 = .ok (.aload_n 0, 1) := by decide +kernel
theorem dX7_told_131 : decode cX7_told 131 = .ok (.iload_n 1, 1) := by decide +kernel
theorem dX7_told_132 : decode cX7_told 132 = .ok (.invokevirtual 225, 3) := by decide +kernel
theorem dX7_told_135 : decode cX7_told 135 = .ok (.ireturn, 1) := by decide +kernel
theorem dX7_on_0 : decode cX7_on 0 = .ok (.iload_n 2, 1) := by decide +kernel
theorem dX7_on_1 : decode cX7_on 1 = .ok (.ifCond .lt 8, 3) := by decide +kernel
theorem dX7_on_4 : decode cX7_on 4 = .ok (.iload_n 2, 1) := by decide +kernel
theorem dX7_on_5 : decode cX7_on 5 = .ok (.iconst 4, 1) := by decide +kernel
theorem dX7_on_6 : decode cX7_on 6 = .ok (.if_icmp .le 5, 3) := by decide +kernel
theorem dX7_on_9 : decode cX7_on 9 = .ok (.iconst (-1), 1) := by decide +kernel
theorem dX7_on_10 : decode cX7_on 10 = .ok (.ireturn, 1) := by decide +kernel
theorem dX7_on_11 : decode cX7_on 11 = .ok (.iload_n 1, 1) := by decide +kernel
theorem dX7_on_12 : decode cX7_on 12 = .ok (.ifCond .lt 10, 3) := by decide +kernel
theorem dX7_on_15 : decode cX7_on 15 = .ok (.iload_n 1, 1) := by decide +kernel
theorem dX7_on_16 : decode cX7_on 16 = .ok (.sipush 400, 3) := by decide +kernel
theorem dX7_on_19 : decode cX7_on 19 = .ok (.if_icmp .le 6, 3) := by decide +kernel
theorem dX7_on_22 : decode cX7_on 22 = .ok (.bipush (-2), 2) := by decide +kernel
theorem dX7_on_24 : decode cX7_on 24 = .ok (.ireturn, 1) := by decide +kernel
theorem dX7_on_25 : decode cX7_on 25 = .ok (.aload_n 0, 1) := by decide +kernel
theorem dX7_on_26 : decode cX7_on 26 = .ok (.getfield 35, 3) := by decide +kernel
theorem dX7_on_29 : decode cX7_on 29 = .ok (.aload_n 0, 1) := by decide +kernel
theorem dX7_on_30 : decode cX7_on 30 = .ok (.getfield 12, 3) := by decide +kernel
theorem dX7_on_33 : decode cX7_on 33 = .ok (.getfield 68, 3) := by decide +kernel
theorem dX7_on_36 : decode cX7_on 36 = .ok (.invokevirtual 228, 3) := by decide +kernel
theorem dX7_on_39 : decode cX7_on 39 = .ok (.aload_n 0, 1) := by decide +kernel
theorem dX7_on_40 : decode cX7_on 40 = .ok (.getfield 35, 3) := by decide +kernel
theorem dX7_on_43 : decode cX7_on 43 = .ok (.aload_n 0, 1) := by decide +kernel
theorem dX7_on_44 : decode cX7_on 44 = .ok (.getfield 12, 3) := by decide +kernel
theorem dX7_on_47 : decode cX7_on 47 = .ok (.getfield 74, 3) := by decide +kernel
theorem dX7_on_50 : decode cX7_on 50 = .ok (.iload_n 1, 1) := by decide +kernel
theorem dX7_on_51 : decode cX7_on 51 = .ok (.invokevirtual 206, 3) := by decide +kernel
theorem dX7_on_54 : decode cX7_on 54 = .ok (.pop, 1) := by decide +kernel
theorem dX7_on_55 : decode cX7_on 55 = .ok (.iload_n 2, 1) := by decide +kernel
theorem dX7_on_56 : decode cX7_on 56 = .ok (.tableswitch 64 0 3 #[32, 40, 48, 56], 32) := by decide +kernel
theorem dX7_on_88 : decode cX7_on 88 = .ok (.aload_n 0, 1) := by decide +kernel
theorem dX7_on_89 : decode cX7_on 89 = .ok (.getfield 35, 3) := by decide +kernel
theorem dX7_on_92 : decode cX7_on 92 = .ok (.getfield 231, 3) := by decide +kernel
theorem dX7_on_95 : decode cX7_on 95 = .ok (.ireturn, 1) := by decide +kernel
theorem dX7_on_96 : decode cX7_on 96 = .ok (.aload_n 0, 1) := by decide +kernel
theorem dX7_on_97 : decode cX7_on 97 = .ok (.getfield 35, 3) := by decide +kernel
theorem dX7_on_100 : decode cX7_on 100 = .ok (.invokevirtual 234, 3) := by decide +kernel
theorem dX7_on_103 : decode cX7_on 103 = .ok (.ireturn, 1) := by decide +kernel
theorem dX7_on_104 : decode cX7_on 104 = .ok (.aload_n 0, 1) := by decide +kernel
theorem dX7_on_105 : decode cX7_on 105 = .ok (.getfield 35, 3) := by decide +kernel
theorem dX7_on_108 : decode cX7_on 108 = .ok (.getfield 101, 3) := by decide +kernel
theorem dX7_on_111 : decode cX7_on 111 = .ok (.ireturn, 1) := by decide +kernel
theorem dX7_on_112 : decode cX7_on 112 = .ok (.aload_n 0, 1) := by decide +kernel
theorem dX7_on_113 : decode cX7_on 113 = .ok (.getfield 35, 3) := by decide +kernel
theorem dX7_on_116 : decode cX7_on 116 = .ok (.invokevirtual 209, 3) := by decide +kernel
theorem dX7_on_119 : decode cX7_on 119 = .ok (.ireturn, 1) := by decide +kernel
theorem dX7_on_120 : decode cX7_on 120 = .ok (.aload_n 0, 1) := by decide +kernel
theorem dX7_on_121 : decode cX7_on 121 = .ok (.getfield 35, 3) := by decide +kernel
theorem dX7_on_124 : decode cX7_on 124 = .ok (.getfield 237, 3) := by decide +kernel
theorem dX7_on_127 : decode cX7_on 127 = .ok (.ireturn, 1) := by decide +kernel
theorem dX7_need_0 : decode cX7_need 0 = .ok (.iload_n 2, 1) := by decide +kernel
theorem dX7_need_1 : decode cX7_need 1 = .ok (.ifCond .lt 8, 3) := by decide +kernel
theorem dX7_need_4 : decode cX7_need 4 = .ok (.iload_n 2, 1) := by decide +kernel
theorem dX7_need_5 : decode cX7_need 5 = .ok (.iconst 4, 1) := by decide +kernel
theorem dX7_need_6 : decode cX7_need 6 = .ok (.if_icmp .le 5, 3) := by decide +kernel
theorem dX7_need_9 : decode cX7_need 9 = .ok (.iconst (-1), 1) := by decide +kernel
theorem dX7_need_10 : decode cX7_need 10 = .ok (.ireturn, 1) := by decide +kernel
theorem dX7_need_11 : decode cX7_need 11 = .ok (.iload_n 1, 1) := by decide +kernel
theorem dX7_need_12 : decode cX7_need 12 = .ok (.invokestatic 194, 3) := by decide +kernel
theorem dX7_need_15 : decode cX7_need 15 = .ok (.ifCond .ne 6, 3) := by decide +kernel
theorem dX7_need_18 : decode cX7_need 18 = .ok (.bipush (-2), 2) := by decide +kernel
theorem dX7_need_20 : decode cX7_need 20 = .ok (.ireturn, 1) := by decide +kernel
theorem dX7_need_21 : decode cX7_need 21 = .ok (.aload_n 0, 1) := by decide +kernel
theorem dX7_need_22 : decode cX7_need 22 = .ok (.getfield 12, 3) := by decide +kernel
theorem dX7_need_25 : decode cX7_need 25 = .ok (.getfield 68, 3) := by decide +kernel
theorem dX7_need_28 : decode cX7_need 28 = .ok (.getfield 71, 3) := by decide +kernel
theorem dX7_need_31 : decode cX7_need 31 = .ok (.ifCond .eq 6, 3) := by decide +kernel
theorem dX7_need_34 : decode cX7_need 34 = .ok (.bipush (-3), 2) := by decide +kernel
theorem dX7_need_36 : decode cX7_need 36 = .ok (.ireturn, 1) := by decide +kernel
theorem dX7_need_37 : decode cX7_need 37 = .ok (.aload_n 0, 1) := by decide +kernel
theorem dX7_need_38 : decode cX7_need 38 = .ok (.getfield 35, 3) := by decide +kernel
theorem dX7_need_41 : decode cX7_need 41 = .ok (.iload_n 1, 1) := by decide +kernel
theorem dX7_need_42 : decode cX7_need 42 = .ok (.invokevirtual 197, 3) := by decide +kernel
theorem dX7_need_45 : decode cX7_need 45 = .ok (.aload_n 0, 1) := by decide +kernel
theorem dX7_need_46 : decode cX7_need 46 = .ok (.getfield 35, 3) := by decide +kernel
theorem dX7_need_49 : decode cX7_need 49 = .ok (.aload_n 0, 1) := by decide +kernel
theorem dX7_need_50 : decode cX7_need 50 = .ok (.getfield 12, 3) := by decide +kernel
theorem dX7_need_53 : decode cX7_need 53 = .ok (.getfield 74, 3) := by decide +kernel
theorem dX7_need_56 : decode cX7_need 56 = .ok (.sipush 1000, 3) := by decide +kernel
theorem dX7_need_59 : decode cX7_need 59 = .ok (.invokevirtual 206, 3) := by decide +kernel
theorem dX7_need_62 : decode cX7_need 62 = .ok (.pop, 1) := by decide +kernel
theorem dX7_need_63 : decode cX7_need 63 = .ok (.aload_n 0, 1) := by decide +kernel
theorem dX7_need_64 : decode cX7_need 64 = .ok (.getfield 35, 3) := by decide +kernel
theorem dX7_need_67 : decode cX7_need 67 = .ok (.iload_n 2, 1) := by decide +kernel
theorem dX7_need_68 : decode cX7_need 68 = .ok (.invokevirtual 240, 3) := by decide +kernel
theorem dX7_need_71 : decode cX7_need 71 = .ok (.ireturn, 1) := by decide +kernel
theorem dX7_least_0 : decode cX7_least 0 = .ok (.iload_n 1, 1) := by decide +kernel
theorem dX7_least_1 : decode cX7_least 1 = .ok (.ifCond .lt 8, 3) := by decide +kernel
theorem dX7_least_4 : decode cX7_least 4 = .ok (.iload_n 1, 1) := by decide +kernel
theorem dX7_least_5 : decode cX7_least 5 = .ok (.iconst 1, 1) := by decide +kernel
theorem dX7_least_6 : decode cX7_least 6 = .ok (.if_icmp .le 5, 3) := by decide +kernel
theorem dX7_least_9 : decode cX7_least 9 = .ok (.iconst (-1), 1) := by decide +kernel
theorem dX7_least_10 : decode cX7_least 10 = .ok (.ireturn, 1) := by decide +kernel
theorem dX7_least_11 : decode cX7_least 11 = .ok (.aload_n 0, 1) := by decide +kernel
theorem dX7_least_12 : decode cX7_least 12 = .ok (.getfield 12, 3) := by decide +kernel
theorem dX7_least_15 : decode cX7_least 15 = .ok (.getfield 68, 3) := by decide +kernel
theorem dX7_least_18 : decode cX7_least 18 = .ok (.getfield 71, 3) := by decide +kernel
theorem dX7_least_21 : decode cX7_least 21 = .ok (.ifCond .eq 6, 3) := by decide +kernel
theorem dX7_least_24 : decode cX7_least 24 = .ok (.bipush (-3), 2) := by decide +kernel
theorem dX7_least_26 : decode cX7_least 26 = .ok (.ireturn, 1) := by decide +kernel
theorem dX7_least_27 : decode cX7_least 27 = .ok (.iconst 0, 1) := by decide +kernel
theorem dX7_least_28 : decode cX7_least 28 = .ok (.istore_n 2, 1) := by decide +kernel
theorem dX7_least_29 : decode cX7_least 29 = .ok (.iload_n 2, 1) := by decide +kernel
theorem dX7_least_30 : decode cX7_least 30 = .ok (.bipush 8, 2) := by decide +kernel
theorem dX7_least_32 : decode cX7_least 32 = .ok (.if_icmp .gt 56, 3) := by decide +kernel
theorem dX7_least_35 : decode cX7_least 35 = .ok (.aload_n 0, 1) := by decide +kernel
theorem dX7_least_36 : decode cX7_least 36 = .ok (.getfield 35, 3) := by decide +kernel
theorem dX7_least_39 : decode cX7_least 39 = .ok (.iload_n 2, 1) := by decide +kernel
theorem dX7_least_40 : decode cX7_least 40 = .ok (.invokevirtual 197, 3) := by decide +kernel
theorem dX7_least_43 : decode cX7_least 43 = .ok (.aload_n 0, 1) := by decide +kernel
theorem dX7_least_44 : decode cX7_least 44 = .ok (.getfield 35, 3) := by decide +kernel
theorem dX7_least_47 : decode cX7_least 47 = .ok (.aload_n 0, 1) := by decide +kernel
theorem dX7_least_48 : decode cX7_least 48 = .ok (.getfield 12, 3) := by decide +kernel
theorem dX7_least_51 : decode cX7_least 51 = .ok (.getfield 74, 3) := by decide +kernel
theorem dX7_least_54 : decode cX7_least 54 = .ok (.sipush 1000, 3) := by decide +kernel
theorem dX7_least_57 : decode cX7_least 57 = .ok (.invokevirtual 206, 3) := by decide +kernel
theorem dX7_least_60 : decode cX7_least 60 = .ok (.pop, 1) := by decide +kernel
theorem dX7_least_61 : decode cX7_least 61 = .ok (.aload_n 0, 1) := by decide +kernel
theorem dX7_least_62 : decode cX7_least 62 = .ok (.getfield 35, 3) := by decide +kernel
theorem dX7_least_65 : decode cX7_least 65 = .ok (.iload_n 1, 1) := by decide +kernel
theorem dX7_least_66 : decode cX7_least 66 = .ok (.ifCond .ne 7, 3) := by decide +kernel
theorem dX7_least_69 : decode cX7_least 69 = .ok (.iconst 1, 1) := by decide +kernel
theorem dX7_least_70 : decode cX7_least 70 = .ok (.goto 4, 3) := by decide +kernel
theorem dX7_least_73 : decode cX7_least 73 = .ok (.iconst 3, 1) := by decide +kernel
theorem dX7_least_74 : decode cX7_least 74 = .ok (.invokevirtual 240, 3) := by decide +kernel
theorem dX7_least_77 : decode cX7_least 77 = .ok (.ifCond .ne 5, 3) := by decide +kernel
theorem dX7_least_80 : decode cX7_least 80 = .ok (.iload_n 2, 1) := by decide +kernel
theorem dX7_least_81 : decode cX7_least 81 = .ok (.ireturn, 1) := by decide +kernel
theorem dX7_least_82 : decode cX7_least 82 = .ok (.iinc 2 1, 3) := by decide +kernel
theorem dX7_least_85 : decode cX7_least 85 = .ok (.goto (-56), 3) := by decide +kernel
theorem dX7_least_88 : decode cX7_least 88 = .ok (.bipush (-5), 2) := by decide +kernel
theorem dX7_least_90 : decode cX7_least 90 = .ok (.ireturn, 1) := by decide +kernel
theorem dX7_see_0 : decode cX7_see 0 = .ok (.iload_n 1, 1) := by decide +kernel
theorem dX7_see_1 : decode cX7_see 1 = .ok (.iconst (-1), 1) := by decide +kernel
theorem dX7_see_2 : decode cX7_see 2 = .ok (.if_icmp .ne 14, 3) := by decide +kernel
theorem dX7_see_5 : decode cX7_see 5 = .ok (.aload_n 0, 1) := by decide +kernel
theorem dX7_see_6 : decode cX7_see 6 = .ok (.getfield 12, 3) := by decide +kernel
theorem dX7_see_9 : decode cX7_see 9 = .ok (.getfield 243, 3) := by decide +kernel
theorem dX7_see_12 : decode cX7_see 12 = .ok (.invokevirtual 247, 3) := by decide +kernel
theorem dX7_see_15 : decode cX7_see 15 = .ok (.ireturn, 1) := by decide +kernel
theorem dX7_see_16 : decode cX7_see 16 = .ok (.aload_n 0, 1) := by decide +kernel
theorem dX7_see_17 : decode cX7_see 17 = .ok (.getfield 12, 3) := by decide +kernel
theorem dX7_see_20 : decode cX7_see 20 = .ok (.getfield 74, 3) := by decide +kernel
theorem dX7_see_23 : decode cX7_see 23 = .ok (.iload_n 1, 1) := by decide +kernel
theorem dX7_see_24 : decode cX7_see 24 = .ok (.invokevirtual 88, 3) := by decide +kernel
theorem dX7_see_27 : decode cX7_see 27 = .ok (.ifCond .ne 5, 3) := by decide +kernel
theorem dX7_see_30 : decode cX7_see 30 = .ok (.iconst (-1), 1) := by decide +kernel
theorem dX7_see_31 : decode cX7_see 31 = .ok (.ireturn, 1) := by decide +kernel
theorem dX7_see_32 : decode cX7_see 32 = .ok (.iload_n 2, 1) := by decide +kernel
theorem dX7_see_33 : decode cX7_see 33 = .ok (.ifCond .lt 9, 3) := by decide +kernel
theorem dX7_see_36 : decode cX7_see 36 = .ok (.iload_n 2, 1) := by decide +kernel
theorem dX7_see_37 : decode cX7_see 37 = .ok (.bipush 40, 2) := by decide +kernel
theorem dX7_see_39 : decode cX7_see 39 = .ok (.if_icmp .le 6, 3) := by decide +kernel
theorem dX7_see_42 : decode cX7_see 42 = .ok (.bipush (-2), 2) := by decide +kernel
theorem dX7_see_44 : decode cX7_see 44 = .ok (.ireturn, 1) := by decide +kernel
theorem dX7_see_45 : decode cX7_see 45 = .ok (.aload_n 0, 1) := by decide +kernel
theorem dX7_see_46 : decode cX7_see 46 = .ok (.getfield 12, 3) := by decide +kernel
theorem dX7_see_49 : decode cX7_see 49 = .ok (.getfield 243, 3) := by decide +kernel
theorem dX7_see_52 : decode cX7_see 52 = .ok (.getfield 252, 3) := by decide +kernel
theorem dX7_see_55 : decode cX7_see 55 = .ok (.iconst 5, 1) := by decide +kernel
theorem dX7_see_56 : decode cX7_see 56 = .ok (.if_icmp .ge 22, 3) := by decide +kernel
theorem dX7_see_59 : decode cX7_see 59 = .ok (.aload_n 0, 1) := by decide +kernel
theorem dX7_see_60 : decode cX7_see 60 = .ok (.getfield 12, 3) := by decide +kernel
theorem dX7_see_63 : decode cX7_see 63 = .ok (.getfield 243, 3) := by decide +kernel
theorem dX7_see_66 : decode cX7_see 66 = .ok (.iload_n 1, 1) := by decide +kernel
theorem dX7_see_67 : decode cX7_see 67 = .ok (.iload_n 2, 1) := by decide +kernel
theorem dX7_see_68 : decode cX7_see 68 = .ok (.iload_n 3, 1) := by decide +kernel
theorem dX7_see_69 : decode cX7_see 69 = .ok (.invokestatic 108, 3) := by decide +kernel
theorem dX7_see_72 : decode cX7_see 72 = .ok (.invokevirtual 255, 3) := by decide +kernel
theorem dX7_see_75 : decode cX7_see 75 = .ok (.goto 5, 3) := by decide +kernel
theorem dX7_see_78 : decode cX7_see 78 = .ok (.bipush (-4), 2) := by decide +kernel
theorem dX7_see_80 : decode cX7_see 80 = .ok (.ireturn, 1) := by decide +kernel
theorem dX7_fits_0 : decode cX7_fits 0 = .ok (.iload_n 1, 1) := by decide +kernel
theorem dX7_fits_1 : decode cX7_fits 1 = .ok (.invokestatic 194, 3) := by decide +kernel
theorem dX7_fits_4 : decode cX7_fits 4 = .ok (.ifCond .ne 6, 3) := by decide +kernel
theorem dX7_fits_7 : decode cX7_fits 7 = .ok (.bipush (-2), 2) := by decide +kernel
theorem dX7_fits_9 : decode cX7_fits 9 = .ok (.ireturn, 1) := by decide +kernel
theorem dX7_fits_10 : decode cX7_fits 10 = .ok (.aload_n 0, 1) := by decide +kernel
theorem dX7_fits_11 : decode cX7_fits 11 = .ok (.getfield 12, 3) := by decide +kernel
theorem dX7_fits_14 : decode cX7_fits 14 = .ok (.getfield 68, 3) := by decide +kernel
theorem dX7_fits_17 : decode cX7_fits 17 = .ok (.getfield 71, 3) := by decide +kernel
theorem dX7_fits_20 : decode cX7_fits 20 = .ok (.ifCond .eq 6, 3) := by decide +kernel
theorem dX7_fits_23 : decode cX7_fits 23 = .ok (.bipush (-3), 2) := by decide +kernel
theorem dX7_fits_25 : decode cX7_fits 25 = .ok (.ireturn, 1) := by decide +kernel
theorem dX7_fits_26 : decode cX7_fits 26 = .ok (.iconst 0, 1) := by decide +kernel
theorem dX7_fits_27 : decode cX7_fits 27 = .ok (.istore_n 2, 1) := by decide +kernel
theorem dX7_fits_28 : decode cX7_fits 28 = .ok (.aload_n 0, 1) := by decide +kernel
theorem dX7_fits_29 : decode cX7_fits 29 = .ok (.getfield 28, 3) := by decide +kernel
theorem dX7_fits_32 : decode cX7_fits 32 = .ok (.aload_n 0, 1) := by decide +kernel
theorem dX7_fits_33 : decode cX7_fits 33 = .ok (.getfield 12, 3) := by decide +kernel
theorem dX7_fits_36 : decode cX7_fits 36 = .ok (.getfield 74, 3) := by decide +kernel
theorem dX7_fits_39 : decode cX7_fits 39 = .ok (.invokevirtual 177, 3) := by decide +kernel
theorem dX7_fits_42 : decode cX7_fits 42 = .ok (.iconst 0, 1) := by decide +kernel
theorem dX7_fits_43 : decode cX7_fits 43 = .ok (.istore_n 3, 1) := by decide +kernel
theorem dX7_fits_44 : decode cX7_fits 44 = .ok (.iload_n 3, 1) := by decide +kernel
theorem dX7_fits_45 : decode cX7_fits 45 = .ok (.bipush 24, 2) := by decide +kernel
theorem dX7_fits_47 : decode cX7_fits 47 = .ok (.if_icmp .ge 51, 3) := by decide +kernel
theorem dX7_fits_50 : decode cX7_fits 50 = .ok (.aload_n 0, 1) := by decide +kernel
theorem dX7_fits_51 : decode cX7_fits 51 = .ok (.getfield 28, 3) := by decide +kernel
theorem dX7_fits_54 : decode cX7_fits 54 = .ok (.iconst 0, 1) := by decide +kernel
theorem dX7_fits_55 : decode cX7_fits 55 = .ok (.iload_n 3, 1) := by decide +kernel
theorem dX7_fits_56 : decode cX7_fits 56 = .ok (.invokevirtual 162, 3) := by decide +kernel
theorem dX7_fits_59 : decode cX7_fits 59 = .ok (.aload_n 0, 1) := by decide +kernel
theorem dX7_fits_60 : decode cX7_fits 60 = .ok (.getfield 12, 3) := by decide +kernel
theorem dX7_fits_63 : decode cX7_fits 63 = .ok (.getfield 74, 3) := by decide +kernel
theorem dX7_fits_66 : decode cX7_fits 66 = .ok (.iload_n 3, 1) := by decide +kernel
theorem dX7_fits_67 : decode cX7_fits 67 = .ok (.invokevirtual 88, 3) := by decide +kernel
theorem dX7_fits_70 : decode cX7_fits 70 = .ok (.ifCond .eq 22, 3) := by decide +kernel
theorem dX7_fits_73 : decode cX7_fits 73 = .ok (.aload_n 0, 1) := by decide +kernel
theorem dX7_fits_74 : decode cX7_fits 74 = .ok (.aload_n 0, 1) := by decide +kernel
theorem dX7_fits_75 : decode cX7_fits 75 = .ok (.getfield 28, 3) := by decide +kernel
theorem dX7_fits_78 : decode cX7_fits 78 = .ok (.iload_n 1, 1) := by decide +kernel
theorem dX7_fits_79 : decode cX7_fits 79 = .ok (.invokevirtual 256, 3) := by decide +kernel
theorem dX7_fits_82 : decode cX7_fits 82 = .ok (.ifCond .eq 10, 3) := by decide +kernel
theorem dX7_fits_85 : decode cX7_fits 85 = .ok (.iload_n 2, 1) := by decide +kernel
theorem dX7_fits_86 : decode cX7_fits 86 = .ok (.iload_n 3, 1) := by decide +kernel
theorem dX7_fits_87 : decode cX7_fits 87 = .ok (.invokestatic 168, 3) := by decide +kernel
theorem dX7_fits_90 : decode cX7_fits 90 = .ok (.ior, 1) := by decide +kernel
theorem dX7_fits_91 : decode cX7_fits 91 = .ok (.istore_n 2, 1) := by decide +kernel
theorem dX7_fits_92 : decode cX7_fits 92 = .ok (.iinc 3 1, 3) := by decide +kernel
theorem dX7_fits_95 : decode cX7_fits 95 = .ok (.goto (-51), 3) := by decide +kernel
theorem dX7_fits_98 : decode cX7_fits 98 = .ok (.iload_n 2, 1) := by decide +kernel
theorem dX7_fits_99 : decode cX7_fits 99 = .ok (.ireturn, 1) := by decide +kernel
theorem dX7_can_0 : decode cX7_can 0 = .ok (.aload_n 0, 1) := by decide +kernel
theorem dX7_can_1 : decode cX7_can 1 = .ok (.getfield 12, 3) := by decide +kernel
theorem dX7_can_4 : decode cX7_can 4 = .ok (.getfield 74, 3) := by decide +kernel
theorem dX7_can_7 : decode cX7_can 7 = .ok (.iload_n 1, 1) := by decide +kernel
theorem dX7_can_8 : decode cX7_can 8 = .ok (.invokevirtual 88, 3) := by decide +kernel
theorem dX7_can_11 : decode cX7_can 11 = .ok (.ifCond .eq 12, 3) := by decide +kernel
theorem dX7_can_14 : decode cX7_can 14 = .ok (.iload_n 3, 1) := by decide +kernel
theorem dX7_can_15 : decode cX7_can 15 = .ok (.ifCond .lt 8, 3) := by decide +kernel
theorem dX7_can_18 : decode cX7_can 18 = .ok (.iload_n 3, 1) := by decide +kernel
theorem dX7_can_19 : decode cX7_can 19 = .ok (.iconst 1, 1) := by decide +kernel
theorem dX7_can_20 : decode cX7_can 20 = .ok (.if_icmp .le 5, 3) := by decide +kernel
theorem dX7_can_23 : decode cX7_can 23 = .ok (.iconst (-1), 1) := by decide +kernel
theorem dX7_can_24 : decode cX7_can 24 = .ok (.ireturn, 1) := by decide +kernel
theorem dX7_can_25 : decode cX7_can 25 = .ok (.iload_n 2, 1) := by decide +kernel
theorem dX7_can_26 : decode cX7_can 26 = .ok (.invokestatic 194, 3) := by decide +kernel
theorem dX7_can_29 : decode cX7_can 29 = .ok (.ifCond .ne 6, 3) := by decide +kernel
theorem dX7_can_32 : decode cX7_can 32 = .ok (.bipush (-2), 2) := by decide +kernel
theorem dX7_can_34 : decode cX7_can 34 = .ok (.ireturn, 1) := by decide +kernel
theorem dX7_can_35 : decode cX7_can 35 = .ok (.aload_n 0, 1) := by decide +kernel
theorem dX7_can_36 : decode cX7_can 36 = .ok (.getfield 12, 3) := by decide +kernel
theorem dX7_can_39 : decode cX7_can 39 = .ok (.getfield 68, 3) := by decide +kernel
theorem dX7_can_42 : decode cX7_can 42 = .ok (.getfield 71, 3) := by decide +kernel
theorem dX7_can_45 : decode cX7_can 45 = .ok (.ifCond .eq 6, 3) := by decide +kernel
theorem dX7_can_48 : decode cX7_can 48 = .ok (.bipush (-3), 2) := by decide +kernel
theorem dX7_can_50 : decode cX7_can 50 = .ok (.ireturn, 1) := by decide +kernel
theorem dX7_can_51 : decode cX7_can 51 = .ok (.iconst 0, 1) := by decide +kernel
theorem dX7_can_52 : decode cX7_can 52 = .ok (.istore 4, 2) := by decide +kernel
theorem dX7_can_54 : decode cX7_can 54 = .ok (.bipush (-5), 2) := by decide +kernel
theorem dX7_can_56 : decode cX7_can 56 = .ok (.istore 5, 2) := by decide +kernel
theorem dX7_can_58 : decode cX7_can 58 = .ok (.aload_n 0, 1) := by decide +kernel
theorem dX7_can_59 : decode cX7_can 59 = .ok (.getfield 28, 3) := by decide +kernel
theorem dX7_can_62 : decode cX7_can 62 = .ok (.aload_n 0, 1) := by decide +kernel
theorem dX7_can_63 : decode cX7_can 63 = .ok (.getfield 12, 3) := by decide +kernel
theorem dX7_can_66 : decode cX7_can 66 = .ok (.getfield 74, 3) := by decide +kernel
theorem dX7_can_69 : decode cX7_can 69 = .ok (.invokevirtual 177, 3) := by decide +kernel
theorem dX7_can_72 : decode cX7_can 72 = .ok (.bipush 9, 2) := by decide +kernel
theorem dX7_can_74 : decode cX7_can 74 = .ok (.istore 6, 2) := by decide +kernel
theorem dX7_can_76 : decode cX7_can 76 = .ok (.iload 6, 2) := by decide +kernel
theorem dX7_can_78 : decode cX7_can 78 = .ok (.ifCond .lt 38, 3) := by decide +kernel
theorem dX7_can_81 : decode cX7_can 81 = .ok (.aload_n 0, 1) := by decide +kernel
theorem dX7_can_82 : decode cX7_can 82 = .ok (.getfield 28, 3) := by decide +kernel
theorem dX7_can_85 : decode cX7_can 85 = .ok (.iload_n 1, 1) := by decide +kernel
theorem dX7_can_86 : decode cX7_can 86 = .ok (.iload 6, 2) := by decide +kernel
theorem dX7_can_88 : decode cX7_can 88 = .ok (.invokevirtual 152, 3) := by decide +kernel
theorem dX7_can_91 : decode cX7_can 91 = .ok (.aload_n 0, 1) := by decide +kernel
theorem dX7_can_92 : decode cX7_can 92 = .ok (.aload_n 0, 1) := by decide +kernel
theorem dX7_can_93 : decode cX7_can 93 = .ok (.getfield 28, 3) := by decide +kernel
theorem dX7_can_96 : decode cX7_can 96 = .ok (.iload_n 2, 1) := by decide +kernel
theorem dX7_can_97 : decode cX7_can 97 = .ok (.invokevirtual 256, 3) := by decide +kernel
theorem dX7_can_100 : decode cX7_can 100 = .ok (.ifCond .eq 10, 3) := by decide +kernel
theorem dX7_can_103 : decode cX7_can 103 = .ok (.iinc 4 1, 3) := by decide +kernel
theorem dX7_can_106 : decode cX7_can 106 = .ok (.iload 6, 2) := by decide +kernel
theorem dX7_can_108 : decode cX7_can 108 = .ok (.istore 5, 2) := by decide +kernel
theorem dX7_can_110 : decode cX7_can 110 = .ok (.iinc 6 (-1), 3) := by decide +kernel
theorem dX7_can_113 : decode cX7_can 113 = .ok (.goto (-37), 3) := by decide +kernel
theorem dX7_can_116 : decode cX7_can 116 = .ok (.iload_n 3, 1) := by decide +kernel
theorem dX7_can_117 : decode cX7_can 117 = .ok (.ifCond .ne 8, 3) := by decide +kernel
theorem dX7_can_120 : decode cX7_can 120 = .ok (.iload 4, 2) := by decide +kernel
theorem dX7_can_122 : decode cX7_can 122 = .ok (.goto 5, 3) := by decide +kernel
theorem dX7_can_125 : decode cX7_can 125 = .ok (.iload 5, 2) := by decide +kernel
theorem dX7_can_127 : decode cX7_can 127 = .ok (.ireturn, 1) := by decide +kernel
theorem dX7_odds_0 : decode cX7_odds 0 = .ok (.aload_n 0, 1) := by decide +kernel
theorem dX7_odds_1 : decode cX7_odds 1 = .ok (.getfield 12, 3) := by decide +kernel
theorem dX7_odds_4 : decode cX7_odds 4 = .ok (.getfield 74, 3) := by decide +kernel
theorem dX7_odds_7 : decode cX7_odds 7 = .ok (.astore_n 3, 1) := by decide +kernel
theorem dX7_odds_8 : decode cX7_odds 8 = .ok (.aload_n 3, 1) := by decide +kernel
theorem dX7_odds_9 : decode cX7_odds 9 = .ok (.iload_n 1, 1) := by decide +kernel
theorem dX7_odds_10 : decode cX7_odds 10 = .ok (.invokevirtual 88, 3) := by decide +kernel
theorem dX7_odds_13 : decode cX7_odds 13 = .ok (.ifCond .ne 7, 3) := by decide +kernel
theorem dX7_odds_16 : decode cX7_odds 16 = .ok (.ldc2_w 260, 3) := by decide +kernel
theorem dX7_odds_19 : decode cX7_odds 19 = .ok (.lreturn, 1) := by decide +kernel
theorem dX7_odds_20 : decode cX7_odds 20 = .ok (.aload_n 0, 1) := by decide +kernel
theorem dX7_odds_21 : decode cX7_odds 21 = .ok (.getfield 42, 3) := by decide +kernel
theorem dX7_odds_24 : decode cX7_odds 24 = .ok (.aload_n 3, 1) := by decide +kernel
theorem dX7_odds_25 : decode cX7_odds 25 = .ok (.invokevirtual 219, 3) := by decide +kernel
theorem dX7_odds_28 : decode cX7_odds 28 = .ok (.iconst 0, 1) := by decide +kernel
theorem dX7_odds_29 : decode cX7_odds 29 = .ok (.istore 4, 2) := by decide +kernel
theorem dX7_odds_31 : decode cX7_odds 31 = .ok (.iconst 0, 1) := by decide +kernel
theorem dX7_odds_32 : decode cX7_odds 32 = .ok (.istore 5, 2) := by decide +kernel
theorem dX7_odds_34 : decode cX7_odds 34 = .ok (.iconst 0, 1) := by decide +kernel
theorem dX7_odds_35 : decode cX7_odds 35 = .ok (.istore 6, 2) := by decide +kernel
theorem dX7_odds_37 : decode cX7_odds 37 = .ok (.iload 6, 2) := by decide +kernel
theorem dX7_odds_39 : decode cX7_odds 39 = .ok (.bipush 24, 2) := by decide +kernel
theorem dX7_odds_41 : decode cX7_odds 41 = .ok (.if_icmp .ge 69, 3) := by decide +kernel
theorem dX7_odds_44 : decode cX7_odds 44 = .ok (.iconst 0, 1) := by decide +kernel
theorem dX7_odds_45 : decode cX7_odds 45 = .ok (.istore 7, 2) := by decide +kernel
theorem dX7_odds_47 : decode cX7_odds 47 = .ok (.iload 7, 2) := by decide +kernel
theorem dX7_odds_49 : decode cX7_odds 49 = .ok (.aload_n 3, 1) := by decide +kernel
theorem dX7_odds_50 : decode cX7_odds 50 = .ok (.iload 6, 2) := by decide +kernel
theorem dX7_odds_52 : decode cX7_odds 52 = .ok (.invokevirtual 98, 3) := by decide +kernel
theorem dX7_odds_55 : decode cX7_odds 55 = .ok (.if_icmp .ge 49, 3) := by decide +kernel
theorem dX7_odds_58 : decode cX7_odds 58 = .ok (.aload_n 3, 1) := by decide +kernel
theorem dX7_odds_59 : decode cX7_odds 59 = .ok (.iload 6, 2) := by decide +kernel
theorem dX7_odds_61 : decode cX7_odds 61 = .ok (.iload 7, 2) := by decide +kernel
theorem dX7_odds_63 : decode cX7_odds 63 = .ok (.invokevirtual 262, 3) := by decide +kernel
theorem dX7_odds_66 : decode cX7_odds 66 = .ok (.bipush (-5), 2) := by decide +kernel
theorem dX7_odds_68 : decode cX7_odds 68 = .ok (.if_icmp .eq 30, 3) := by decide +kernel
theorem dX7_odds_71 : decode cX7_odds 71 = .ok (.iinc 4 1, 3) := by decide +kernel
theorem dX7_odds_74 : decode cX7_odds 74 = .ok (.iload 5, 2) := by decide +kernel
theorem dX7_odds_76 : decode cX7_odds 76 = .ok (.aload_n 0, 1) := by decide +kernel
theorem dX7_odds_77 : decode cX7_odds 77 = .ok (.getfield 42, 3) := by decide +kernel
theorem dX7_odds_80 : decode cX7_odds 80 = .ok (.aload_n 3, 1) := by decide +kernel
theorem dX7_odds_81 : decode cX7_odds 81 = .ok (.iload 6, 2) := by decide +kernel
theorem dX7_odds_83 : decode cX7_odds 83 = .ok (.iload 7, 2) := by decide +kernel
theorem dX7_odds_85 : decode cX7_odds 85 = .ok (.invokevirtual 265, 3) := by decide +kernel
theorem dX7_odds_88 : decode cX7_odds 88 = .ok (.iload_n 1, 1) := by decide +kernel
theorem dX7_odds_89 : decode cX7_odds 89 = .ok (.invokestatic 104, 3) := by decide +kernel
theorem dX7_odds_92 : decode cX7_odds 92 = .ok (.invokestatic 108, 3) := by decide +kernel
theorem dX7_odds_95 : decode cX7_odds 95 = .ok (.iadd, 1) := by decide +kernel
theorem dX7_odds_96 : decode cX7_odds 96 = .ok (.istore 5, 2) := by decide +kernel
theorem dX7_odds_98 : decode cX7_odds 98 = .ok (.iinc 7 1, 3) := by decide +kernel
theorem dX7_odds_101 : decode cX7_odds 101 = .ok (.goto (-54), 3) := by decide +kernel
theorem dX7_odds_104 : decode cX7_odds 104 = .ok (.iinc 6 1, 3) := by decide +kernel
theorem dX7_odds_107 : decode cX7_odds 107 = .ok (.goto (-70), 3) := by decide +kernel
theorem dX7_odds_110 : decode cX7_odds 110 = .ok (.iload 5, 2) := by decide +kernel
theorem dX7_odds_112 : decode cX7_odds 112 = .ok (.iload 4, 2) := by decide +kernel
theorem dX7_odds_114 : decode cX7_odds 114 = .ok (.iload_n 2, 1) := by decide +kernel
theorem dX7_odds_115 : decode cX7_odds 115 = .ok (.invokestatic 269, 3) := by decide +kernel
theorem dX7_odds_118 : decode cX7_odds 118 = .ok (.lreturn, 1) := by decide +kernel
theorem dX7_mean_0 : decode cX7_mean 0 = .ok (.aload_n 0, 1) := by decide +kernel
theorem dX7_mean_1 : decode cX7_mean 1 = .ok (.getfield 42, 3) := by decide +kernel
theorem dX7_mean_4 : decode cX7_mean 4 = .ok (.aload_n 0, 1) := by decide +kernel
theorem dX7_mean_5 : decode cX7_mean 5 = .ok (.getfield 12, 3) := by decide +kernel
theorem dX7_mean_8 : decode cX7_mean 8 = .ok (.getfield 74, 3) := by decide +kernel
theorem dX7_mean_11 : decode cX7_mean 11 = .ok (.invokevirtual 219, 3) := by decide +kernel
theorem dX7_mean_14 : decode cX7_mean 14 = .ok (.iconst 0, 1) := by decide +kernel
theorem dX7_mean_15 : decode cX7_mean 15 = .ok (.istore_n 2, 1) := by decide +kernel
theorem dX7_mean_16 : decode cX7_mean 16 = .ok (.iconst 0, 1) := by decide +kernel
theorem dX7_mean_17 : decode cX7_mean 17 = .ok (.istore_n 3, 1) := by decide +kernel
theorem dX7_mean_18 : decode cX7_mean 18 = .ok (.iload_n 3, 1) := by decide +kernel
theorem dX7_mean_19 : decode cX7_mean 19 = .ok (.bipush 24, 2) := by decide +kernel
theorem dX7_mean_21 : decode cX7_mean 21 = .ok (.if_icmp .ge 24, 3) := by decide +kernel
theorem dX7_mean_24 : decode cX7_mean 24 = .ok (.iload_n 2, 1) := by decide +kernel
theorem dX7_mean_25 : decode cX7_mean 25 = .ok (.aload_n 0, 1) := by decide +kernel
theorem dX7_mean_26 : decode cX7_mean 26 = .ok (.getfield 42, 3) := by decide +kernel
theorem dX7_mean_29 : decode cX7_mean 29 = .ok (.iload_n 3, 1) := by decide +kernel
theorem dX7_mean_30 : decode cX7_mean 30 = .ok (.invokevirtual 273, 3) := by decide +kernel
theorem dX7_mean_33 : decode cX7_mean 33 = .ok (.iconst 0, 1) := by decide +kernel
theorem dX7_mean_34 : decode cX7_mean 34 = .ok (.invokestatic 276, 3) := by decide +kernel
theorem dX7_mean_37 : decode cX7_mean 37 = .ok (.iadd, 1) := by decide +kernel
theorem dX7_mean_38 : decode cX7_mean 38 = .ok (.istore_n 2, 1) := by decide +kernel
theorem dX7_mean_39 : decode cX7_mean 39 = .ok (.iinc 3 1, 3) := by decide +kernel
theorem dX7_mean_42 : decode cX7_mean 42 = .ok (.goto (-24), 3) := by decide +kernel
theorem dX7_mean_45 : decode cX7_mean 45 = .ok (.iload_n 2, 1) := by decide +kernel
theorem dX7_mean_46 : decode cX7_mean 46 = .ok (.aload_n 0, 1) := by decide +kernel
theorem dX7_mean_47 : decode cX7_mean 47 = .ok (.getfield 42, 3) := by decide +kernel
theorem dX7_mean_50 : decode cX7_mean 50 = .ok (.invokevirtual 222, 3) := by decide +kernel
theorem dX7_mean_53 : decode cX7_mean 53 = .ok (.invokestatic 201, 3) := by decide +kernel
theorem dX7_mean_56 : decode cX7_mean 56 = .ok (.iload_n 1, 1) := by decide +kernel
theorem dX7_mean_57 : decode cX7_mean 57 = .ok (.invokestatic 269, 3) := by decide +kernel
theorem dX7_mean_60 : decode cX7_mean 60 = .ok (.lreturn, 1) := by decide +kernel
theorem dX7_plan_0 : decode cX7_plan 0 = .ok (.iload_n 1, 1) := by decide +kernel
theorem dX7_plan_1 : decode cX7_plan 1 = .ok (.iconst (-1), 1) := by decide +kernel
theorem dX7_plan_2 : decode cX7_plan 2 = .ok (.if_icmp .ne 14, 3) := by decide +kernel
theorem dX7_plan_5 : decode cX7_plan 5 = .ok (.aload_n 0, 1) := by decide +kernel
theorem dX7_plan_6 : decode cX7_plan 6 = .ok (.getfield 12, 3) := by decide +kernel
theorem dX7_plan_9 : decode cX7_plan 9 = .ok (.getfield 281, 3) := by decide +kernel
theorem dX7_plan_12 : decode cX7_plan 12 = .ok (.invokevirtual 247, 3) := by decide +kernel
theorem dX7_plan_15 : decode cX7_plan 15 = .ok (.ireturn, 1) := by decide +kernel
theorem dX7_plan_16 : decode cX7_plan 16 = .ok (.aload_n 0, 1) := by decide +kernel
theorem dX7_plan_17 : decode cX7_plan 17 = .ok (.iload_n 1, 1) := by decide +kernel
theorem dX7_plan_18 : decode cX7_plan 18 = .ok (.iload_n 2, 1) := by decide +kernel
theorem dX7_plan_19 : decode cX7_plan 19 = .ok (.invokevirtual 284, 3) := by decide +kernel
theorem dX7_plan_22 : decode cX7_plan 22 = .ok (.ifCond .ne 5, 3) := by decide +kernel
theorem dX7_plan_25 : decode cX7_plan 25 = .ok (.iconst (-1), 1) := by decide +kernel
theorem dX7_plan_26 : decode cX7_plan 26 = .ok (.ireturn, 1) := by decide +kernel
theorem dX7_plan_27 : decode cX7_plan 27 = .ok (.aload_n 0, 1) := by decide +kernel
theorem dX7_plan_28 : decode cX7_plan 28 = .ok (.getfield 12, 3) := by decide +kernel
theorem dX7_plan_31 : decode cX7_plan 31 = .ok (.getfield 281, 3) := by decide +kernel
theorem dX7_plan_34 : decode cX7_plan 34 = .ok (.getfield 252, 3) := by decide +kernel
theorem dX7_plan_37 : decode cX7_plan 37 = .ok (.bipush 10, 2) := by decide +kernel
theorem dX7_plan_39 : decode cX7_plan 39 = .ok (.if_icmp .ge 19, 3) := by decide +kernel
theorem dX7_plan_42 : decode cX7_plan 42 = .ok (.aload_n 0, 1) := by decide +kernel
theorem dX7_plan_43 : decode cX7_plan 43 = .ok (.getfield 12, 3) := by decide +kernel
theorem dX7_plan_46 : decode cX7_plan 46 = .ok (.getfield 281, 3) := by decide +kernel
theorem dX7_plan_49 : decode cX7_plan 49 = .ok (.iload_n 1, 1) := by decide +kernel
theorem dX7_plan_50 : decode cX7_plan 50 = .ok (.iload_n 2, 1) := by decide +kernel
theorem dX7_plan_51 : decode cX7_plan 51 = .ok (.iconst 0, 1) := by decide +kernel
theorem dX7_plan_52 : decode cX7_plan 52 = .ok (.invokevirtual 255, 3) := by decide +kernel
theorem dX7_plan_55 : decode cX7_plan 55 = .ok (.goto 5, 3) := by decide +kernel
theorem dX7_plan_58 : decode cX7_plan 58 = .ok (.bipush (-4), 2) := by decide +kernel
theorem dX7_plan_60 : decode cX7_plan 60 = .ok (.ireturn, 1) := by decide +kernel
theorem dX7_ends_0 : decode cX7_ends 0 = .ok (.aload_n 0, 1) := by decide +kernel
theorem dX7_ends_1 : decode cX7_ends 1 = .ok (.getfield 28, 3) := by decide +kernel
theorem dX7_ends_4 : decode cX7_ends 4 = .ok (.aload_n 0, 1) := by decide +kernel
theorem dX7_ends_5 : decode cX7_ends 5 = .ok (.getfield 12, 3) := by decide +kernel
theorem dX7_ends_8 : decode cX7_ends 8 = .ok (.getfield 74, 3) := by decide +kernel
theorem dX7_ends_11 : decode cX7_ends 11 = .ok (.invokevirtual 177, 3) := by decide +kernel
theorem dX7_ends_14 : decode cX7_ends 14 = .ok (.iconst 0, 1) := by decide +kernel
theorem dX7_ends_15 : decode cX7_ends 15 = .ok (.istore_n 1, 1) := by decide +kernel
theorem dX7_ends_16 : decode cX7_ends 16 = .ok (.iload_n 1, 1) := by decide +kernel
theorem dX7_ends_17 : decode cX7_ends 17 = .ok (.aload_n 0, 1) := by decide +kernel
theorem dX7_ends_18 : decode cX7_ends 18 = .ok (.getfield 12, 3) := by decide +kernel
theorem dX7_ends_21 : decode cX7_ends 21 = .ok (.getfield 281, 3) := by decide +kernel
theorem dX7_ends_24 : decode cX7_ends 24 = .ok (.getfield 252, 3) := by decide +kernel
theorem dX7_ends_27 : decode cX7_ends 27 = .ok (.if_icmp .ge 101, 3) := by decide +kernel
theorem dX7_ends_30 : decode cX7_ends 30 = .ok (.aload_n 0, 1) := by decide +kernel
theorem dX7_ends_31 : decode cX7_ends 31 = .ok (.getfield 12, 3) := by decide +kernel
theorem dX7_ends_34 : decode cX7_ends 34 = .ok (.getfield 281, 3) := by decide +kernel
theorem dX7_ends_37 : decode cX7_ends 37 = .ok (.iload_n 1, 1) := by decide +kernel
theorem dX7_ends_38 : decode cX7_ends 38 = .ok (.iconst 1, 1) := by decide +kernel
theorem dX7_ends_39 : decode cX7_ends 39 = .ok (.invokevirtual 287, 3) := by decide +kernel
theorem dX7_ends_42 : decode cX7_ends 42 = .ok (.istore_n 2, 1) := by decide +kernel
theorem dX7_ends_43 : decode cX7_ends 43 = .ok (.aload_n 0, 1) := by decide +kernel
theorem dX7_ends_44 : decode cX7_ends 44 = .ok (.getfield 12, 3) := by decide +kernel
theorem dX7_ends_47 : decode cX7_ends 47 = .ok (.getfield 281, 3) := by decide +kernel
theorem dX7_ends_50 : decode cX7_ends 50 = .ok (.iload_n 1, 1) := by decide +kernel
theorem dX7_ends_51 : decode cX7_ends 51 = .ok (.iconst 0, 1) := by decide +kernel
theorem dX7_ends_52 : decode cX7_ends 52 = .ok (.invokevirtual 287, 3) := by decide +kernel
theorem dX7_ends_55 : decode cX7_ends 55 = .ok (.lookupswitch 58 #[(0, 25), (1, 45)], 25) := by decide +kernel
theorem dX7_ends_80 : decode cX7_ends 80 = .ok (.aload_n 0, 1) := by decide +kernel
theorem dX7_ends_81 : decode cX7_ends 81 = .ok (.getfield 28, 3) := by decide +kernel
theorem dX7_ends_84 : decode cX7_ends 84 = .ok (.iload_n 2, 1) := by decide +kernel
theorem dX7_ends_85 : decode cX7_ends 85 = .ok (.bipush 10, 2) := by decide +kernel
theorem dX7_ends_87 : decode cX7_ends 87 = .ok (.idiv, 1) := by decide +kernel
theorem dX7_ends_88 : decode cX7_ends 88 = .ok (.iload_n 2, 1) := by decide +kernel
theorem dX7_ends_89 : decode cX7_ends 89 = .ok (.bipush 10, 2) := by decide +kernel
theorem dX7_ends_91 : decode cX7_ends 91 = .ok (.irem, 1) := by decide +kernel
theorem dX7_ends_92 : decode cX7_ends 92 = .ok (.bipush (-5), 2) := by decide +kernel
theorem dX7_ends_94 : decode cX7_ends 94 = .ok (.invokevirtual 148, 3) := by decide +kernel
theorem dX7_ends_97 : decode cX7_ends 97 = .ok (.goto 25, 3) := by decide +kernel
theorem dX7_ends_100 : decode cX7_ends 100 = .ok (.aload_n 0, 1) := by decide +kernel
theorem dX7_ends_101 : decode cX7_ends 101 = .ok (.getfield 28, 3) := by decide +kernel
theorem dX7_ends_104 : decode cX7_ends 104 = .ok (.iload_n 2, 1) := by decide +kernel
theorem dX7_ends_105 : decode cX7_ends 105 = .ok (.bipush (-5), 2) := by decide +kernel
theorem dX7_ends_107 : decode cX7_ends 107 = .ok (.invokevirtual 162, 3) := by decide +kernel
theorem dX7_ends_110 : decode cX7_ends 110 = .ok (.goto 12, 3) := by decide +kernel
theorem dX7_ends_113 : decode cX7_ends 113 = .ok (.aload_n 0, 1) := by decide +kernel
theorem dX7_ends_114 : decode cX7_ends 114 = .ok (.getfield 28, 3) := by decide +kernel
theorem dX7_ends_117 : decode cX7_ends 117 = .ok (.iload_n 2, 1) := by decide +kernel
theorem dX7_ends_118 : decode cX7_ends 118 = .ok (.iconst 0, 1) := by decide +kernel
theorem dX7_ends_119 : decode cX7_ends 119 = .ok (.invokevirtual 152, 3) := by decide +kernel
theorem dX7_ends_122 : decode cX7_ends 122 = .ok (.iinc 1 1, 3) := by decide +kernel
theorem dX7_ends_125 : decode cX7_ends 125 = .ok (.goto (-109), 3) := by decide +kernel
theorem dX7_ends_128 : decode cX7_ends 128 = .ok (.aload_n 0, 1) := by decide +kernel
theorem dX7_ends_129 : decode cX7_ends 129 = .ok (.getfield 42, 3) := by decide +kernel
theorem dX7_ends_132 : decode cX7_ends 132 = .ok (.aload_n 0, 1) := by decide +kernel
theorem dX7_ends_133 : decode cX7_ends 133 = .ok (.getfield 28, 3) := by decide +kernel
theorem dX7_ends_136 : decode cX7_ends 136 = .ok (.invokevirtual 219, 3) := by decide +kernel
theorem dX7_ends_139 : decode cX7_ends 139 = .ok (.aload_n 0, 1) := by decide +kernel
theorem dX7_ends_140 : decode cX7_ends 140 = .ok (.getfield 42, 3) := by decide +kernel
theorem dX7_ends_143 : decode cX7_ends 143 = .ok (.invokevirtual 222, 3) := by decide +kernel
theorem dX7_ends_146 : decode cX7_ends 146 = .ok (.ireturn, 1) := by decide +kernel
theorem dX7_book_0 : decode cX7_book 0 = .ok (.iload_n 1, 1) := by decide +kernel
theorem dX7_book_1 : decode cX7_book 1 = .ok (.iconst (-1), 1) := by decide +kernel
theorem dX7_book_2 : decode cX7_book 2 = .ok (.if_icmp .ne 14, 3) := by decide +kernel
theorem dX7_book_5 : decode cX7_book 5 = .ok (.aload_n 0, 1) := by decide +kernel
theorem dX7_book_6 : decode cX7_book 6 = .ok (.getfield 12, 3) := by decide +kernel
theorem dX7_book_9 : decode cX7_book 9 = .ok (.getfield 290, 3) := by decide +kernel
theorem dX7_book_12 : decode cX7_book 12 = .ok (.invokevirtual 247, 3) := by decide +kernel
theorem dX7_book_15 : decode cX7_book 15 = .ok (.ireturn, 1) := by decide +kernel
theorem dX7_book_16 : decode cX7_book 16 = .ok (.aload_n 0, 1) := by decide +kernel
theorem dX7_book_17 : decode cX7_book 17 = .ok (.getfield 12, 3) := by decide +kernel
theorem dX7_book_20 : decode cX7_book 20 = .ok (.getfield 74, 3) := by decide +kernel
theorem dX7_book_23 : decode cX7_book 23 = .ok (.iload_n 1, 1) := by decide +kernel
theorem dX7_book_24 : decode cX7_book 24 = .ok (.iload_n 2, 1) := by decide +kernel
theorem dX7_book_25 : decode cX7_book 25 = .ok (.invokevirtual 130, 3) := by decide +kernel
theorem dX7_book_28 : decode cX7_book 28 = .ok (.ifCond .eq 17, 3) := by decide +kernel
theorem dX7_book_31 : decode cX7_book 31 = .ok (.aload_n 0, 1) := by decide +kernel
theorem dX7_book_32 : decode cX7_book 32 = .ok (.getfield 12, 3) := by decide +kernel
theorem dX7_book_35 : decode cX7_book 35 = .ok (.getfield 74, 3) := by decide +kernel
theorem dX7_book_38 : decode cX7_book 38 = .ok (.iload_n 3, 1) := by decide +kernel
theorem dX7_book_39 : decode cX7_book 39 = .ok (.invokevirtual 142, 3) := by decide +kernel
theorem dX7_book_42 : decode cX7_book 42 = .ok (.ifCond .ne 5, 3) := by decide +kernel
theorem dX7_book_45 : decode cX7_book 45 = .ok (.iconst (-1), 1) := by decide +kernel
theorem dX7_book_46 : decode cX7_book 46 = .ok (.ireturn, 1) := by decide +kernel
theorem dX7_book_47 : decode cX7_book 47 = .ok (.aload_n 0, 1) := by decide +kernel
theorem dX7_book_48 : decode cX7_book 48 = .ok (.getfield 12, 3) := by decide +kernel
theorem dX7_book_51 : decode cX7_book 51 = .ok (.getfield 290, 3) := by decide +kernel
theorem dX7_book_54 : decode cX7_book 54 = .ok (.getfield 252, 3) := by decide +kernel
theorem dX7_book_57 : decode cX7_book 57 = .ok (.bipush 8, 2) := by decide +kernel
theorem dX7_book_59 : decode cX7_book 59 = .ok (.if_icmp .ge 22, 3) := by decide +kernel
theorem dX7_book_62 : decode cX7_book 62 = .ok (.aload_n 0, 1) := by decide +kernel
theorem dX7_book_63 : decode cX7_book 63 = .ok (.getfield 12, 3) := by decide +kernel
theorem dX7_book_66 : decode cX7_book 66 = .ok (.getfield 290, 3) := by decide +kernel
theorem dX7_book_69 : decode cX7_book 69 = .ok (.iload_n 1, 1) := by decide +kernel
theorem dX7_book_70 : decode cX7_book 70 = .ok (.iload_n 2, 1) := by decide +kernel
theorem dX7_book_71 : decode cX7_book 71 = .ok (.iload_n 3, 1) := by decide +kernel
theorem dX7_book_72 : decode cX7_book 72 = .ok (.invokestatic 145, 3) := by decide +kernel
theorem dX7_book_75 : decode cX7_book 75 = .ok (.invokevirtual 255, 3) := by decide +kernel
theorem dX7_book_78 : decode cX7_book 78 = .ok (.goto 5, 3) := by decide +kernel
theorem dX7_book_81 : decode cX7_book 81 = .ok (.bipush (-4), 2) := by decide +kernel
theorem dX7_book_83 : decode cX7_book 83 = .ok (.ireturn, 1) := by decide +kernel
theorem dX7_looked_0 : decode cX7_looked 0 = .ok (.iconst 0, 1) := by decide +kernel
theorem dX7_looked_1 : decode cX7_looked 1 = .ok (.istore_n 1, 1) := by decide +kernel
theorem dX7_looked_2 : decode cX7_looked 2 = .ok (.iload_n 1, 1) := by decide +kernel
theorem dX7_looked_3 : decode cX7_looked 3 = .ok (.aload_n 0, 1) := by decide +kernel
theorem dX7_looked_4 : decode cX7_looked 4 = .ok (.getfield 12, 3) := by decide +kernel
theorem dX7_looked_7 : decode cX7_looked 7 = .ok (.getfield 290, 3) := by decide +kernel
theorem dX7_looked_10 : decode cX7_looked 10 = .ok (.getfield 252, 3) := by decide +kernel
theorem dX7_looked_13 : decode cX7_looked 13 = .ok (.if_icmp .ge 79, 3) := by decide +kernel
theorem dX7_looked_16 : decode cX7_looked 16 = .ok (.aload_n 0, 1) := by decide +kernel
theorem dX7_looked_17 : decode cX7_looked 17 = .ok (.getfield 12, 3) := by decide +kernel
theorem dX7_looked_20 : decode cX7_looked 20 = .ok (.getfield 290, 3) := by decide +kernel
theorem dX7_looked_23 : decode cX7_looked 23 = .ok (.iload_n 1, 1) := by decide +kernel
theorem dX7_looked_24 : decode cX7_looked 24 = .ok (.iconst 0, 1) := by decide +kernel
theorem dX7_looked_25 : decode cX7_looked 25 = .ok (.invokevirtual 287, 3) := by decide +kernel
theorem dX7_looked_28 : decode cX7_looked 28 = .ok (.istore_n 2, 1) := by decide +kernel
theorem dX7_looked_29 : decode cX7_looked 29 = .ok (.aload_n 0, 1) := by decide +kernel
theorem dX7_looked_30 : decode cX7_looked 30 = .ok (.getfield 12, 3) := by decide +kernel
theorem dX7_looked_33 : decode cX7_looked 33 = .ok (.getfield 290, 3) := by decide +kernel
theorem dX7_looked_36 : decode cX7_looked 36 = .ok (.iload_n 1, 1) := by decide +kernel
theorem dX7_looked_37 : decode cX7_looked 37 = .ok (.iconst 1, 1) := by decide +kernel
theorem dX7_looked_38 : decode cX7_looked 38 = .ok (.invokevirtual 287, 3) := by decide +kernel
theorem dX7_looked_41 : decode cX7_looked 41 = .ok (.istore_n 3, 1) := by decide +kernel
theorem dX7_looked_42 : decode cX7_looked 42 = .ok (.aload_n 0, 1) := by decide +kernel
theorem dX7_looked_43 : decode cX7_looked 43 = .ok (.getfield 12, 3) := by decide +kernel
theorem dX7_looked_46 : decode cX7_looked 46 = .ok (.getfield 74, 3) := by decide +kernel
theorem dX7_looked_49 : decode cX7_looked 49 = .ok (.iload_n 2, 1) := by decide +kernel
theorem dX7_looked_50 : decode cX7_looked 50 = .ok (.iload_n 3, 1) := by decide +kernel
theorem dX7_looked_51 : decode cX7_looked 51 = .ok (.invokevirtual 130, 3) := by decide +kernel
theorem dX7_looked_54 : decode cX7_looked 54 = .ok (.ifCond .eq 30, 3) := by decide +kernel
theorem dX7_looked_57 : decode cX7_looked 57 = .ok (.aload_n 0, 1) := by decide +kernel
theorem dX7_looked_58 : decode cX7_looked 58 = .ok (.getfield 12, 3) := by decide +kernel
theorem dX7_looked_61 : decode cX7_looked 61 = .ok (.getfield 74, 3) := by decide +kernel
theorem dX7_looked_64 : decode cX7_looked 64 = .ok (.iload_n 2, 1) := by decide +kernel
theorem dX7_looked_65 : decode cX7_looked 65 = .ok (.iload_n 3, 1) := by decide +kernel
theorem dX7_looked_66 : decode cX7_looked 66 = .ok (.invokevirtual 133, 3) := by decide +kernel
theorem dX7_looked_69 : decode cX7_looked 69 = .ok (.aload_n 0, 1) := by decide +kernel
theorem dX7_looked_70 : decode cX7_looked 70 = .ok (.getfield 12, 3) := by decide +kernel
theorem dX7_looked_73 : decode cX7_looked 73 = .ok (.getfield 290, 3) := by decide +kernel
theorem dX7_looked_76 : decode cX7_looked 76 = .ok (.iload_n 1, 1) := by decide +kernel
theorem dX7_looked_77 : decode cX7_looked 77 = .ok (.iconst 2, 1) := by decide +kernel
theorem dX7_looked_78 : decode cX7_looked 78 = .ok (.invokevirtual 287, 3) := by decide +kernel
theorem dX7_looked_81 : decode cX7_looked 81 = .ok (.if_icmp .eq 5, 3) := by decide +kernel
theorem dX7_looked_84 : decode cX7_looked 84 = .ok (.iload_n 1, 1) := by decide +kernel
theorem dX7_looked_85 : decode cX7_looked 85 = .ok (.ireturn, 1) := by decide +kernel
theorem dX7_looked_86 : decode cX7_looked 86 = .ok (.iinc 1 1, 3) := by decide +kernel
theorem dX7_looked_89 : decode cX7_looked 89 = .ok (.goto (-87), 3) := by decide +kernel
theorem dX7_looked_92 : decode cX7_looked 92 = .ok (.bipush (-5), 2) := by decide +kernel
theorem dX7_looked_94 : decode cX7_looked 94 = .ok (.ireturn, 1) := by decide +kernel
theorem dX7_judge_0 : decode cX7_judge 0 = .ok (.iload_n 1, 1) := by decide +kernel
theorem dX7_judge_1 : decode cX7_judge 1 = .ok (.invokestatic 293, 3) := by decide +kernel
theorem dX7_judge_4 : decode cX7_judge 4 = .ok (.ifCond .ne 5, 3) := by decide +kernel
theorem dX7_judge_7 : decode cX7_judge 7 = .ok (.iconst (-1), 1) := by decide +kernel
theorem dX7_judge_8 : decode cX7_judge 8 = .ok (.ireturn, 1) := by decide +kernel
theorem dX7_judge_9 : decode cX7_judge 9 = .ok (.aload_n 0, 1) := by decide +kernel
theorem dX7_judge_10 : decode cX7_judge 10 = .ok (.getfield 56, 3) := by decide +kernel
theorem dX7_judge_13 : decode cX7_judge 13 = .ok (.iload_n 1, 1) := by decide +kernel
theorem dX7_judge_14 : decode cX7_judge 14 = .ok (.invokevirtual 296, 3) := by decide +kernel
theorem dX7_judge_17 : decode cX7_judge 17 = .ok (.istore_n 3, 1) := by decide +kernel
theorem dX7_judge_18 : decode cX7_judge 18 = .ok (.iload_n 3, 1) := by decide +kernel
theorem dX7_judge_19 : decode cX7_judge 19 = .ok (.bipush (-5), 2) := by decide +kernel
theorem dX7_judge_21 : decode cX7_judge 21 = .ok (.if_icmp .eq 11, 3) := by decide +kernel
theorem dX7_judge_24 : decode cX7_judge 24 = .ok (.iload_n 3, 1) := by decide +kernel
theorem dX7_judge_25 : decode cX7_judge 25 = .ok (.iconst 4, 1) := by decide +kernel
theorem dX7_judge_26 : decode cX7_judge 26 = .ok (.if_icmp .eq 6, 3) := by decide +kernel
theorem dX7_judge_29 : decode cX7_judge 29 = .ok (.bipush (-12), 2) := by decide +kernel
theorem dX7_judge_31 : decode cX7_judge 31 = .ok (.ireturn, 1) := by decide +kernel
theorem dX7_judge_32 : decode cX7_judge 32 = .ok (.iconst 0, 1) := by decide +kernel
theorem dX7_judge_33 : decode cX7_judge 33 = .ok (.istore 4, 2) := by decide +kernel
theorem dX7_judge_35 : decode cX7_judge 35 = .ok (.iload 4, 2) := by decide +kernel
theorem dX7_judge_37 : decode cX7_judge 37 = .ok (.aload_n 0, 1) := by decide +kernel
theorem dX7_judge_38 : decode cX7_judge 38 = .ok (.getfield 12, 3) := by decide +kernel
theorem dX7_judge_41 : decode cX7_judge 41 = .ok (.getfield 74, 3) := by decide +kernel
theorem dX7_judge_44 : decode cX7_judge 44 = .ok (.getfield 77, 3) := by decide +kernel
theorem dX7_judge_47 : decode cX7_judge 47 = .ok (.if_icmp .ge 68, 3) := by decide +kernel
theorem dX7_judge_50 : decode cX7_judge 50 = .ok (.aload_n 0, 1) := by decide +kernel
theorem dX7_judge_51 : decode cX7_judge 51 = .ok (.getfield 56, 3) := by decide +kernel
theorem dX7_judge_54 : decode cX7_judge 54 = .ok (.iload_n 1, 1) := by decide +kernel
theorem dX7_judge_55 : decode cX7_judge 55 = .ok (.iload_n 2, 1) := by decide +kernel
theorem dX7_judge_56 : decode cX7_judge 56 = .ok (.iload 4, 2) := by decide +kernel
theorem dX7_judge_58 : decode cX7_judge 58 = .ok (.iadd, 1) := by decide +kernel
theorem dX7_judge_59 : decode cX7_judge 59 = .ok (.invokevirtual 299, 3) := by decide +kernel
theorem dX7_judge_62 : decode cX7_judge 62 = .ok (.ifCond .ne 9, 3) := by decide +kernel
theorem dX7_judge_65 : decode cX7_judge 65 = .ok (.bipush 100, 2) := by decide +kernel
theorem dX7_judge_67 : decode cX7_judge 67 = .ok (.iload 4, 2) := by decide +kernel
theorem dX7_judge_69 : decode cX7_judge 69 = .ok (.iadd, 1) := by decide +kernel
theorem dX7_judge_70 : decode cX7_judge 70 = .ok (.ireturn, 1) := by decide +kernel
theorem dX7_judge_71 : decode cX7_judge 71 = .ok (.aload_n 0, 1) := by decide +kernel
theorem dX7_judge_72 : decode cX7_judge 72 = .ok (.getfield 56, 3) := by decide +kernel
theorem dX7_judge_75 : decode cX7_judge 75 = .ok (.iload_n 1, 1) := by decide +kernel
theorem dX7_judge_76 : decode cX7_judge 76 = .ok (.iload_n 2, 1) := by decide +kernel
theorem dX7_judge_77 : decode cX7_judge 77 = .ok (.iload 4, 2) := by decide +kernel
theorem dX7_judge_79 : decode cX7_judge 79 = .ok (.iadd, 1) := by decide +kernel
theorem dX7_judge_80 : decode cX7_judge 80 = .ok (.invokevirtual 302, 3) := by decide +kernel
theorem dX7_judge_83 : decode cX7_judge 83 = .ok (.aload_n 0, 1) := by decide +kernel
theorem dX7_judge_84 : decode cX7_judge 84 = .ok (.getfield 12, 3) := by decide +kernel
theorem dX7_judge_87 : decode cX7_judge 87 = .ok (.getfield 68, 3) := by decide +kernel
theorem dX7_judge_90 : decode cX7_judge 90 = .ok (.getfield 101, 3) := by decide +kernel
theorem dX7_judge_93 : decode cX7_judge 93 = .ok (.iload 4, 2) := by decide +kernel
theorem dX7_judge_95 : decode cX7_judge 95 = .ok (.invokestatic 104, 3) := by decide +kernel
theorem dX7_judge_98 : decode cX7_judge 98 = .ok (.invokestatic 108, 3) := by decide +kernel
theorem dX7_judge_101 : decode cX7_judge 101 = .ok (.i2l, 1) := by decide +kernel
theorem dX7_judge_102 : decode cX7_judge 102 = .ok (.lcmp, 1) := by decide +kernel
theorem dX7_judge_103 : decode cX7_judge 103 = .ok (.ifCond .eq 6, 3) := by decide +kernel
theorem dX7_judge_106 : decode cX7_judge 106 = .ok (.iload 4, 2) := by decide +kernel
theorem dX7_judge_108 : decode cX7_judge 108 = .ok (.ireturn, 1) := by decide +kernel
theorem dX7_judge_109 : decode cX7_judge 109 = .ok (.iinc 4 1, 3) := by decide +kernel
theorem dX7_judge_112 : decode cX7_judge 112 = .ok (.goto (-77), 3) := by decide +kernel
theorem dX7_judge_115 : decode cX7_judge 115 = .ok (.bipush (-5), 2) := by decide +kernel
theorem dX7_judge_117 : decode cX7_judge 117 = .ok (.ireturn, 1) := by decide +kernel
theorem dX7_image_0 : decode cX7_image 0 = .ok (.aload_n 0, 1) := by decide +kernel
theorem dX7_image_1 : decode cX7_image 1 = .ok (.getfield 18, 3) := by decide +kernel
theorem dX7_image_4 : decode cX7_image 4 = .ok (.aload_n 0, 1) := by decide +kernel
theorem dX7_image_5 : decode cX7_image 5 = .ok (.getfield 12, 3) := by decide +kernel
theorem dX7_image_8 : decode cX7_image 8 = .ok (.invokevirtual 306, 3) := by decide +kernel
theorem dX7_image_11 : decode cX7_image 11 = .ok (.aload_n 0, 1) := by decide +kernel
theorem dX7_image_12 : decode cX7_image 12 = .ok (.iconst 1, 1) := by decide +kernel
theorem dX7_image_13 : decode cX7_image 13 = .ok (.putfield 21, 3) := by decide +kernel
theorem dX7_image_16 : decode cX7_image 16 = .ok (.aload_n 0, 1) := by decide +kernel
theorem dX7_image_17 : decode cX7_image 17 = .ok (.getfield 12, 3) := by decide +kernel
theorem dX7_image_20 : decode cX7_image 20 = .ok (.getfield 74, 3) := by decide +kernel
theorem dX7_image_23 : decode cX7_image 23 = .ok (.getfield 181, 3) := by decide +kernel
theorem dX7_image_26 : decode cX7_image 26 = .ok (.invokestatic 201, 3) := by decide +kernel
theorem dX7_image_29 : decode cX7_image 29 = .ok (.ireturn, 1) := by decide +kernel
theorem dX7_undo_0 : decode cX7_undo 0 = .ok (.aload_n 0, 1) := by decide +kernel
theorem dX7_undo_1 : decode cX7_undo 1 = .ok (.getfield 21, 3) := by decide +kernel
theorem dX7_undo_4 : decode cX7_undo 4 = .ok (.ifCond .ne 6, 3) := by decide +kernel
theorem dX7_undo_7 : decode cX7_undo 7 = .ok (.bipush (-3), 2) := by decide +kernel
theorem dX7_undo_9 : decode cX7_undo 9 = .ok (.ireturn, 1) := by decide +kernel
theorem dX7_undo_10 : decode cX7_undo 10 = .ok (.aload_n 0, 1) := by decide +kernel
theorem dX7_undo_11 : decode cX7_undo 11 = .ok (.getfield 12, 3) := by decide +kernel
theorem dX7_undo_14 : decode cX7_undo 14 = .ok (.aload_n 0, 1) := by decide +kernel
theorem dX7_undo_15 : decode cX7_undo 15 = .ok (.getfield 18, 3) := by decide +kernel
theorem dX7_undo_18 : decode cX7_undo 18 = .ok (.invokevirtual 306, 3) := by decide +kernel
theorem dX7_undo_21 : decode cX7_undo 21 = .ok (.aload_n 0, 1) := by decide +kernel
theorem dX7_undo_22 : decode cX7_undo 22 = .ok (.getfield 12, 3) := by decide +kernel
theorem dX7_undo_25 : decode cX7_undo 25 = .ok (.getfield 74, 3) := by decide +kernel
theorem dX7_undo_28 : decode cX7_undo 28 = .ok (.getfield 181, 3) := by decide +kernel
theorem dX7_undo_31 : decode cX7_undo 31 = .ok (.invokestatic 201, 3) := by decide +kernel
theorem dX7_undo_34 : decode cX7_undo 34 = .ok (.ireturn, 1) := by decide +kernel
theorem dX7_taken_0 : decode cX7_taken 0 = .ok (.iload_n 2, 1) := by decide +kernel
theorem dX7_taken_1 : decode cX7_taken 1 = .ok (.ifCond .lt 9, 3) := by decide +kernel
theorem dX7_taken_4 : decode cX7_taken 4 = .ok (.iload_n 2, 1) := by decide +kernel
theorem dX7_taken_5 : decode cX7_taken 5 = .ok (.bipush 6, 2) := by decide +kernel
theorem dX7_taken_7 : decode cX7_taken 7 = .ok (.if_icmp .le 6, 3) := by decide +kernel
theorem dX7_taken_10 : decode cX7_taken 10 = .ok (.bipush (-2), 2) := by decide +kernel
theorem dX7_taken_12 : decode cX7_taken 12 = .ok (.ireturn, 1) := by decide +kernel
theorem dX7_taken_13 : decode cX7_taken 13 = .ok (.aload_n 0, 1) := by decide +kernel
theorem dX7_taken_14 : decode cX7_taken 14 = .ok (.getfield 12, 3) := by decide +kernel
theorem dX7_taken_17 : decode cX7_taken 17 = .ok (.getfield 74, 3) := by decide +kernel
theorem dX7_taken_20 : decode cX7_taken 20 = .ok (.iload_n 1, 1) := by decide +kernel
theorem dX7_taken_21 : decode cX7_taken 21 = .ok (.invokevirtual 88, 3) := by decide +kernel
theorem dX7_taken_24 : decode cX7_taken 24 = .ok (.ifCond .ne 6, 3) := by decide +kernel
theorem dX7_taken_27 : decode cX7_taken 27 = .ok (.bipush (-11), 2) := by decide +kernel
theorem dX7_taken_29 : decode cX7_taken 29 = .ok (.ireturn, 1) := by decide +kernel
theorem dX7_taken_30 : decode cX7_taken 30 = .ok (.aload_n 0, 1) := by decide +kernel
theorem dX7_taken_31 : decode cX7_taken 31 = .ok (.getfield 12, 3) := by decide +kernel
theorem dX7_taken_34 : decode cX7_taken 34 = .ok (.getfield 74, 3) := by decide +kernel
theorem dX7_taken_37 : decode cX7_taken 37 = .ok (.iload_n 1, 1) := by decide +kernel
theorem dX7_taken_38 : decode cX7_taken 38 = .ok (.invokevirtual 91, 3) := by decide +kernel
theorem dX7_taken_41 : decode cX7_taken 41 = .ok (.iload_n 2, 1) := by decide +kernel
theorem dX7_taken_42 : decode cX7_taken 42 = .ok (.invokestatic 309, 3) := by decide +kernel
theorem dX7_taken_45 : decode cX7_taken 45 = .ok (.ifCond .eq 17, 3) := by decide +kernel
theorem dX7_taken_48 : decode cX7_taken 48 = .ok (.aload_n 0, 1) := by decide +kernel
theorem dX7_taken_49 : decode cX7_taken 49 = .ok (.getfield 12, 3) := by decide +kernel
theorem dX7_taken_52 : decode cX7_taken 52 = .ok (.getfield 74, 3) := by decide +kernel
theorem dX7_taken_55 : decode cX7_taken 55 = .ok (.iload_n 1, 1) := by decide +kernel
theorem dX7_taken_56 : decode cX7_taken 56 = .ok (.invokevirtual 91, 3) := by decide +kernel
theorem dX7_taken_59 : decode cX7_taken 59 = .ok (.goto 5, 3) := by decide +kernel
theorem dX7_taken_62 : decode cX7_taken 62 = .ok (.bipush (-12), 2) := by decide +kernel
theorem dX7_taken_64 : decode cX7_taken 64 = .ok (.ireturn, 1) := by decide +kernel
theorem dX7_count_0 : decode cX7_count 0 = .ok (.iload_n 1, 1) := by decide +kernel
theorem dX7_count_1 : decode cX7_count 1 = .ok (.tableswitch 87 0 4 #[35, 46, 57, 68, 79], 35) := by decide +kernel
theorem dX7_count_36 : decode cX7_count 36 = .ok (.aload_n 0, 1) := by decide +kernel
theorem dX7_count_37 : decode cX7_count 37 = .ok (.getfield 12, 3) := by decide +kernel
theorem dX7_count_40 : decode cX7_count 40 = .ok (.getfield 74, 3) := by decide +kernel
theorem dX7_count_43 : decode cX7_count 43 = .ok (.getfield 77, 3) := by decide +kernel
theorem dX7_count_46 : decode cX7_count 46 = .ok (.ireturn, 1) := by decide +kernel
theorem dX7_count_47 : decode cX7_count 47 = .ok (.aload_n 0, 1) := by decide +kernel
theorem dX7_count_48 : decode cX7_count 48 = .ok (.getfield 12, 3) := by decide +kernel
theorem dX7_count_51 : decode cX7_count 51 = .ok (.getfield 243, 3) := by decide +kernel
theorem dX7_count_54 : decode cX7_count 54 = .ok (.getfield 252, 3) := by decide +kernel
theorem dX7_count_57 : decode cX7_count 57 = .ok (.ireturn, 1) := by decide +kernel
theorem dX7_count_58 : decode cX7_count 58 = .ok (.aload_n 0, 1) := by decide +kernel
theorem dX7_count_59 : decode cX7_count 59 = .ok (.getfield 12, 3) := by decide +kernel
theorem dX7_count_62 : decode cX7_count 62 = .ok (.getfield 281, 3) := by decide +kernel
theorem dX7_count_65 : decode cX7_count 65 = .ok (.getfield 252, 3) := by decide +kernel
theorem dX7_count_68 : decode cX7_count 68 = .ok (.ireturn, 1) := by decide +kernel
theorem dX7_count_69 : decode cX7_count 69 = .ok (.aload_n 0, 1) := by decide +kernel
theorem dX7_count_70 : decode cX7_count 70 = .ok (.getfield 12, 3) := by decide +kernel
theorem dX7_count_73 : decode cX7_count 73 = .ok (.getfield 290, 3) := by decide +kernel
theorem dX7_count_76 : decode cX7_count 76 = .ok (.getfield 252, 3) := by decide +kernel
theorem dX7_count_79 : decode cX7_count 79 = .ok (.ireturn, 1) := by decide +kernel
theorem dX7_count_80 : decode cX7_count 80 = .ok (.aload_n 0, 1) := by decide +kernel
theorem dX7_count_81 : decode cX7_count 81 = .ok (.getfield 49, 3) := by decide +kernel
theorem dX7_count_84 : decode cX7_count 84 = .ok (.getfield 174, 3) := by decide +kernel
theorem dX7_count_87 : decode cX7_count 87 = .ok (.ireturn, 1) := by decide +kernel
theorem dX7_count_88 : decode cX7_count 88 = .ok (.bipush (-2), 2) := by decide +kernel
theorem dX7_count_90 : decode cX7_count 90 = .ok (.ireturn, 1) := by decide +kernel
theorem dX7_tape_0 : decode cX7_tape 0 = .ok (.iload_n 1, 1) := by decide +kernel
theorem dX7_tape_1 : decode cX7_tape 1 = .ok (.invokestatic 293, 3) := by decide +kernel
theorem dX7_tape_4 : decode cX7_tape 4 = .ok (.ifCond .ne 5, 3) := by decide +kernel
theorem dX7_tape_7 : decode cX7_tape 7 = .ok (.iconst (-1), 1) := by decide +kernel
theorem dX7_tape_8 : decode cX7_tape 8 = .ok (.ireturn, 1) := by decide +kernel
theorem dX7_tape_9 : decode cX7_tape 9 = .ok (.iload_n 2, 1) := by decide +kernel
theorem dX7_tape_10 : decode cX7_tape 10 = .ok (.iconst (-1), 1) := by decide +kernel
theorem dX7_tape_11 : decode cX7_tape 11 = .ok (.if_icmp .ne 16, 3) := by decide +kernel
theorem dX7_tape_14 : decode cX7_tape 14 = .ok (.aload_n 0, 1) := by decide +kernel
theorem dX7_tape_15 : decode cX7_tape 15 = .ok (.getfield 56, 3) := by decide +kernel
theorem dX7_tape_18 : decode cX7_tape 18 = .ok (.iload_n 1, 1) := by decide +kernel
theorem dX7_tape_19 : decode cX7_tape 19 = .ok (.bipush (-5), 2) := by decide +kernel
theorem dX7_tape_21 : decode cX7_tape 21 = .ok (.iconst 0, 1) := by decide +kernel
theorem dX7_tape_22 : decode cX7_tape 22 = .ok (.invokevirtual 312, 3) := by decide +kernel
theorem dX7_tape_25 : decode cX7_tape 25 = .ok (.iconst 1, 1) := by decide +kernel
theorem dX7_tape_26 : decode cX7_tape 26 = .ok (.ireturn, 1) := by decide +kernel
theorem dX7_tape_27 : decode cX7_tape 27 = .ok (.iload_n 2, 1) := by decide +kernel
theorem dX7_tape_28 : decode cX7_tape 28 = .ok (.ifCond .lt 14, 3) := by decide +kernel
theorem dX7_tape_31 : decode cX7_tape 31 = .ok (.iload_n 2, 1) := by decide +kernel
theorem dX7_tape_32 : decode cX7_tape 32 = .ok (.iconst 4, 1) := by decide +kernel
theorem dX7_tape_33 : decode cX7_tape 33 = .ok (.if_icmp .gt 9, 3) := by decide +kernel
theorem dX7_tape_36 : decode cX7_tape 36 = .ok (.iload_n 3, 1) := by decide +kernel
theorem dX7_tape_37 : decode cX7_tape 37 = .ok (.bipush 60, 2) := by decide +kernel
theorem dX7_tape_39 : decode cX7_tape 39 = .ok (.if_icmp .le 6, 3) := by decide +kernel
theorem dX7_tape_42 : decode cX7_tape 42 = .ok (.bipush (-2), 2) := by decide +kernel
theorem dX7_tape_44 : decode cX7_tape 44 = .ok (.ireturn, 1) := by decide +kernel
theorem dX7_tape_45 : decode cX7_tape 45 = .ok (.iload_n 3, 1) := by decide +kernel
theorem dX7_tape_46 : decode cX7_tape 46 = .ok (.ifCond .ge 6, 3) := by decide +kernel
theorem dX7_tape_49 : decode cX7_tape 49 = .ok (.bipush (-14), 2) := by decide +kernel
theorem dX7_tape_51 : decode cX7_tape 51 = .ok (.ireturn, 1) := by decide +kernel
theorem dX7_tape_52 : decode cX7_tape 52 = .ok (.aload_n 0, 1) := by decide +kernel
theorem dX7_tape_53 : decode cX7_tape 53 = .ok (.getfield 56, 3) := by decide +kernel
theorem dX7_tape_56 : decode cX7_tape 56 = .ok (.iload_n 1, 1) := by decide +kernel
theorem dX7_tape_57 : decode cX7_tape 57 = .ok (.iload_n 2, 1) := by decide +kernel
theorem dX7_tape_58 : decode cX7_tape 58 = .ok (.iload_n 3, 1) := by decide +kernel
theorem dX7_tape_59 : decode cX7_tape 59 = .ok (.invokevirtual 312, 3) := by decide +kernel
theorem dX7_tape_62 : decode cX7_tape 62 = .ok (.iconst 1, 1) := by decide +kernel
theorem dX7_tape_63 : decode cX7_tape 63 = .ok (.ireturn, 1) := by decide +kernel
theorem dX7_item_0 : decode cX7_item 0 = .ok (.iload_n 1, 1) := by decide +kernel
theorem dX7_item_1 : decode cX7_item 1 = .ok (.invokestatic 293, 3) := by decide +kernel
theorem dX7_item_4 : decode cX7_item 4 = .ok (.ifCond .ne 5, 3) := by decide +kernel
theorem dX7_item_7 : decode cX7_item 7 = .ok (.iconst (-1), 1) := by decide +kernel
theorem dX7_item_8 : decode cX7_item 8 = .ok (.ireturn, 1) := by decide +kernel
theorem dX7_item_9 : decode cX7_item 9 = .ok (.aload_n 0, 1) := by decide +kernel
theorem dX7_item_10 : decode cX7_item 10 = .ok (.getfield 56, 3) := by decide +kernel
theorem dX7_item_13 : decode cX7_item 13 = .ok (.iload_n 1, 1) := by decide +kernel
theorem dX7_item_14 : decode cX7_item 14 = .ok (.invokevirtual 296, 3) := by decide +kernel
theorem dX7_item_17 : decode cX7_item 17 = .ok (.bipush (-5), 2) := by decide +kernel
theorem dX7_item_19 : decode cX7_item 19 = .ok (.if_icmp .ne 6, 3) := by decide +kernel
theorem dX7_item_22 : decode cX7_item 22 = .ok (.bipush (-11), 2) := by decide +kernel
theorem dX7_item_24 : decode cX7_item 24 = .ok (.ireturn, 1) := by decide +kernel
theorem dX7_item_25 : decode cX7_item 25 = .ok (.aload_n 0, 1) := by decide +kernel
theorem dX7_item_26 : decode cX7_item 26 = .ok (.getfield 56, 3) := by decide +kernel
theorem dX7_item_29 : decode cX7_item 29 = .ok (.iload_n 1, 1) := by decide +kernel
theorem dX7_item_30 : decode cX7_item 30 = .ok (.iload_n 2, 1) := by decide +kernel
theorem dX7_item_31 : decode cX7_item 31 = .ok (.invokevirtual 299, 3) := by decide +kernel
theorem dX7_item_34 : decode cX7_item 34 = .ok (.ifCond .ne 6, 3) := by decide +kernel
theorem dX7_item_37 : decode cX7_item 37 = .ok (.bipush (-13), 2) := by decide +kernel
theorem dX7_item_39 : decode cX7_item 39 = .ok (.ireturn, 1) := by decide +kernel
theorem dX7_item_40 : decode cX7_item 40 = .ok (.aload_n 0, 1) := by decide +kernel
theorem dX7_item_41 : decode cX7_item 41 = .ok (.getfield 56, 3) := by decide +kernel
theorem dX7_item_44 : decode cX7_item 44 = .ok (.iload_n 1, 1) := by decide +kernel
theorem dX7_item_45 : decode cX7_item 45 = .ok (.iload_n 2, 1) := by decide +kernel
theorem dX7_item_46 : decode cX7_item 46 = .ok (.lload_n 3, 1) := by decide +kernel
theorem dX7_item_47 : decode cX7_item 47 = .ok (.invokevirtual 315, 3) := by decide +kernel
theorem dX7_item_50 : decode cX7_item 50 = .ok (.iconst 1, 1) := by decide +kernel
theorem dX7_item_51 : decode cX7_item 51 = .ok (.ireturn, 1) := by decide +kernel
theorem dX7_read_0 : decode cX7_read 0 = .ok (.aload_n 0, 1) := by decide +kernel
theorem dX7_read_1 : decode cX7_read 1 = .ok (.getfield 56, 3) := by decide +kernel
theorem dX7_read_4 : decode cX7_read 4 = .ok (.iload_n 1, 1) := by decide +kernel
theorem dX7_read_5 : decode cX7_read 5 = .ok (.iload_n 2, 1) := by decide +kernel
theorem dX7_read_6 : decode cX7_read 6 = .ok (.invokevirtual 299, 3) := by decide +kernel
theorem dX7_read_9 : decode cX7_read 9 = .ok (.ifCond .eq 15, 3) := by decide +kernel
theorem dX7_read_12 : decode cX7_read 12 = .ok (.aload_n 0, 1) := by decide +kernel
theorem dX7_read_13 : decode cX7_read 13 = .ok (.getfield 56, 3) := by decide +kernel
theorem dX7_read_16 : decode cX7_read 16 = .ok (.iload_n 1, 1) := by decide +kernel
theorem dX7_read_17 : decode cX7_read 17 = .ok (.iload_n 2, 1) := by decide +kernel
theorem dX7_read_18 : decode cX7_read 18 = .ok (.invokevirtual 302, 3) := by decide +kernel
theorem dX7_read_21 : decode cX7_read 21 = .ok (.goto 6, 3) := by decide +kernel
theorem dX7_read_24 : decode cX7_read 24 = .ok (.ldc2_w 260, 3) := by decide +kernel
theorem dX7_read_27 : decode cX7_read 27 = .ok (.lreturn, 1) := by decide +kernel
theorem dX7_shift_0 : decode cX7_shift 0 = .ok (.iload_n 1, 1) := by decide +kernel
theorem dX7_shift_1 : decode cX7_shift 1 = .ok (.invokestatic 293, 3) := by decide +kernel
theorem dX7_shift_4 : decode cX7_shift 4 = .ok (.ifCond .eq 10, 3) := by decide +kernel
theorem dX7_shift_7 : decode cX7_shift 7 = .ok (.iload_n 3, 1) := by decide +kernel
theorem dX7_shift_8 : decode cX7_shift 8 = .ok (.invokestatic 293, 3) := by decide +kernel
theorem dX7_shift_11 : decode cX7_shift 11 = .ok (.ifCond .ne 5, 3) := by decide +kernel
theorem dX7_shift_14 : decode cX7_shift 14 = .ok (.iconst (-1), 1) := by decide +kernel
theorem dX7_shift_15 : decode cX7_shift 15 = .ok (.ireturn, 1) := by decide +kernel
theorem dX7_shift_16 : decode cX7_shift 16 = .ok (.aload_n 0, 1) := by decide +kernel
theorem dX7_shift_17 : decode cX7_shift 17 = .ok (.getfield 56, 3) := by decide +kernel
theorem dX7_shift_20 : decode cX7_shift 20 = .ok (.iload_n 1, 1) := by decide +kernel
theorem dX7_shift_21 : decode cX7_shift 21 = .ok (.invokevirtual 296, 3) := by decide +kernel
theorem dX7_shift_24 : decode cX7_shift 24 = .ok (.bipush (-5), 2) := by decide +kernel
theorem dX7_shift_26 : decode cX7_shift 26 = .ok (.if_icmp .eq 16, 3) := by decide +kernel
theorem dX7_shift_29 : decode cX7_shift 29 = .ok (.aload_n 0, 1) := by decide +kernel
theorem dX7_shift_30 : decode cX7_shift 30 = .ok (.getfield 56, 3) := by decide +kernel
theorem dX7_shift_33 : decode cX7_shift 33 = .ok (.iload_n 3, 1) := by decide +kernel
theorem dX7_shift_34 : decode cX7_shift 34 = .ok (.invokevirtual 296, 3) := by decide +kernel
theorem dX7_shift_37 : decode cX7_shift 37 = .ok (.bipush (-5), 2) := by decide +kernel
theorem dX7_shift_39 : decode cX7_shift 39 = .ok (.if_icmp .ne 6, 3) := by decide +kernel
theorem dX7_shift_42 : decode cX7_shift 42 = .ok (.bipush (-11), 2) := by decide +kernel
theorem dX7_shift_44 : decode cX7_shift 44 = .ok (.ireturn, 1) := by decide +kernel
theorem dX7_shift_45 : decode cX7_shift 45 = .ok (.aload_n 0, 1) := by decide +kernel
theorem dX7_shift_46 : decode cX7_shift 46 = .ok (.getfield 56, 3) := by decide +kernel
theorem dX7_shift_49 : decode cX7_shift 49 = .ok (.iload_n 1, 1) := by decide +kernel
theorem dX7_shift_50 : decode cX7_shift 50 = .ok (.invokevirtual 296, 3) := by decide +kernel
theorem dX7_shift_53 : decode cX7_shift 53 = .ok (.aload_n 0, 1) := by decide +kernel
theorem dX7_shift_54 : decode cX7_shift 54 = .ok (.getfield 56, 3) := by decide +kernel
theorem dX7_shift_57 : decode cX7_shift 57 = .ok (.iload_n 3, 1) := by decide +kernel
theorem dX7_shift_58 : decode cX7_shift 58 = .ok (.invokevirtual 296, 3) := by decide +kernel
theorem dX7_shift_61 : decode cX7_shift 61 = .ok (.if_icmp .eq 6, 3) := by decide +kernel
theorem dX7_shift_64 : decode cX7_shift 64 = .ok (.bipush (-12), 2) := by decide +kernel
theorem dX7_shift_66 : decode cX7_shift 66 = .ok (.ireturn, 1) := by decide +kernel
theorem dX7_shift_67 : decode cX7_shift 67 = .ok (.aload_n 0, 1) := by decide +kernel
theorem dX7_shift_68 : decode cX7_shift 68 = .ok (.getfield 56, 3) := by decide +kernel
theorem dX7_shift_71 : decode cX7_shift 71 = .ok (.iload_n 1, 1) := by decide +kernel
theorem dX7_shift_72 : decode cX7_shift 72 = .ok (.iload_n 2, 1) := by decide +kernel
theorem dX7_shift_73 : decode cX7_shift 73 = .ok (.iload 5, 2) := by decide +kernel
theorem dX7_shift_75 : decode cX7_shift 75 = .ok (.invokevirtual 319, 3) := by decide +kernel
theorem dX7_shift_78 : decode cX7_shift 78 = .ok (.ifCond .eq 18, 3) := by decide +kernel
theorem dX7_shift_81 : decode cX7_shift 81 = .ok (.aload_n 0, 1) := by decide +kernel
theorem dX7_shift_82 : decode cX7_shift 82 = .ok (.getfield 56, 3) := by decide +kernel
theorem dX7_shift_85 : decode cX7_shift 85 = .ok (.iload_n 3, 1) := by decide +kernel
theorem dX7_shift_86 : decode cX7_shift 86 = .ok (.iload 4, 2) := by decide +kernel
theorem dX7_shift_88 : decode cX7_shift 88 = .ok (.iload 5, 2) := by decide +kernel
theorem dX7_shift_90 : decode cX7_shift 90 = .ok (.invokevirtual 319, 3) := by decide +kernel
theorem dX7_shift_93 : decode cX7_shift 93 = .ok (.ifCond .ne 6, 3) := by decide +kernel
theorem dX7_shift_96 : decode cX7_shift 96 = .ok (.bipush (-13), 2) := by decide +kernel
theorem dX7_shift_98 : decode cX7_shift 98 = .ok (.ireturn, 1) := by decide +kernel
theorem dX7_shift_99 : decode cX7_shift 99 = .ok (.aload_n 0, 1) := by decide +kernel
theorem dX7_shift_100 : decode cX7_shift 100 = .ok (.getfield 56, 3) := by decide +kernel
theorem dX7_shift_103 : decode cX7_shift 103 = .ok (.iload_n 1, 1) := by decide +kernel
theorem dX7_shift_104 : decode cX7_shift 104 = .ok (.iload_n 2, 1) := by decide +kernel
theorem dX7_shift_105 : decode cX7_shift 105 = .ok (.iload_n 3, 1) := by decide +kernel
theorem dX7_shift_106 : decode cX7_shift 106 = .ok (.iload 4, 2) := by decide +kernel
theorem dX7_shift_108 : decode cX7_shift 108 = .ok (.iload 5, 2) := by decide +kernel
theorem dX7_shift_110 : decode cX7_shift 110 = .ok (.invokevirtual 323, 3) := by decide +kernel
theorem dX7_shift_113 : decode cX7_shift 113 = .ok (.iload 5, 2) := by decide +kernel
theorem dX7_shift_115 : decode cX7_shift 115 = .ok (.ireturn, 1) := by decide +kernel
theorem dX7_wayTo_0 : decode cX7_wayTo 0 = .ok (.aload_n 0, 1) := by decide +kernel
theorem dX7_wayTo_1 : decode cX7_wayTo 1 = .ok (.getfield 42, 3) := by decide +kernel
theorem dX7_wayTo_4 : decode cX7_wayTo 4 = .ok (.aload_n 0, 1) := by decide +kernel
theorem dX7_wayTo_5 : decode cX7_wayTo 5 = .ok (.getfield 12, 3) := by decide +kernel
theorem dX7_wayTo_8 : decode cX7_wayTo 8 = .ok (.getfield 74, 3) := by decide +kernel
theorem dX7_wayTo_11 : decode cX7_wayTo 11 = .ok (.invokevirtual 219, 3) := by decide +kernel
theorem dX7_wayTo_14 : decode cX7_wayTo 14 = .ok (.iload_n 2, 1) := by decide +kernel
theorem dX7_wayTo_15 : decode cX7_wayTo 15 = .ok (.tableswitch 76 8 11 #[29, 38, 51, 60], 29) := by decide +kernel
theorem dX7_wayTo_44 : decode cX7_wayTo 44 = .ok (.aload_n 0, 1) := by decide +kernel
theorem dX7_wayTo_45 : decode cX7_wayTo 45 = .ok (.getfield 42, 3) := by decide +kernel
theorem dX7_wayTo_48 : decode cX7_wayTo 48 = .ok (.iload_n 1, 1) := by decide +kernel
theorem dX7_wayTo_49 : decode cX7_wayTo 49 = .ok (.invokevirtual 273, 3) := by decide +kernel
theorem dX7_wayTo_52 : decode cX7_wayTo 52 = .ok (.ireturn, 1) := by decide +kernel
theorem dX7_wayTo_53 : decode cX7_wayTo 53 = .ok (.aload_n 0, 1) := by decide +kernel
theorem dX7_wayTo_54 : decode cX7_wayTo 54 = .ok (.getfield 42, 3) := by decide +kernel
theorem dX7_wayTo_57 : decode cX7_wayTo 57 = .ok (.iload_n 1, 1) := by decide +kernel
theorem dX7_wayTo_58 : decode cX7_wayTo 58 = .ok (.invokestatic 168, 3) := by decide +kernel
theorem dX7_wayTo_61 : decode cX7_wayTo 61 = .ok (.iconst 0, 1) := by decide +kernel
theorem dX7_wayTo_62 : decode cX7_wayTo 62 = .ok (.invokevirtual 327, 3) := by decide +kernel
theorem dX7_wayTo_65 : decode cX7_wayTo 65 = .ok (.ireturn, 1) := by decide +kernel
theorem dX7_wayTo_66 : decode cX7_wayTo 66 = .ok (.aload_n 0, 1) := by decide +kernel
theorem dX7_wayTo_67 : decode cX7_wayTo 67 = .ok (.getfield 42, 3) := by decide +kernel
theorem dX7_wayTo_70 : decode cX7_wayTo 70 = .ok (.iload_n 1, 1) := by decide +kernel
theorem dX7_wayTo_71 : decode cX7_wayTo 71 = .ok (.invokevirtual 330, 3) := by decide +kernel
theorem dX7_wayTo_74 : decode cX7_wayTo 74 = .ok (.ireturn, 1) := by decide +kernel
theorem dX7_wayTo_75 : decode cX7_wayTo 75 = .ok (.aload_n 0, 1) := by decide +kernel
theorem dX7_wayTo_76 : decode cX7_wayTo 76 = .ok (.getfield 42, 3) := by decide +kernel
theorem dX7_wayTo_79 : decode cX7_wayTo 79 = .ok (.aload_n 0, 1) := by decide +kernel
theorem dX7_wayTo_80 : decode cX7_wayTo 80 = .ok (.getfield 12, 3) := by decide +kernel
theorem dX7_wayTo_83 : decode cX7_wayTo 83 = .ok (.getfield 74, 3) := by decide +kernel
theorem dX7_wayTo_86 : decode cX7_wayTo 86 = .ok (.iload_n 1, 1) := by decide +kernel
theorem dX7_wayTo_87 : decode cX7_wayTo 87 = .ok (.invokevirtual 333, 3) := by decide +kernel
theorem dX7_wayTo_90 : decode cX7_wayTo 90 = .ok (.ireturn, 1) := by decide +kernel
theorem dX7_wayTo_91 : decode cX7_wayTo 91 = .ok (.iconst (-1), 1) := by decide +kernel
theorem dX7_wayTo_92 : decode cX7_wayTo 92 = .ok (.ireturn, 1) := by decide +kernel
theorem dX7_ofMarking_0 : decode cX7_ofMarking 0 = .ok (.aload_n 0, 1) := by decide +kernel
theorem dX7_ofMarking_1 : decode cX7_ofMarking 1 = .ok (.getfield 12, 3) := by decide +kernel
theorem dX7_ofMarking_4 : decode cX7_ofMarking 4 = .ok (.getfield 68, 3) := by decide +kernel
theorem dX7_ofMarking_7 : decode cX7_ofMarking 7 = .ok (.astore_n 2, 1) := by decide +kernel
theorem dX7_ofMarking_8 : decode cX7_ofMarking 8 = .ok (.iload_n 1, 1) := by decide +kernel
theorem dX7_ofMarking_9 : decode cX7_ofMarking 9 = .ok (.tableswitch 145 0 14 #[75, 83, 88, 93, 93, 93, 93, 93, 145, 145, 145, 101, 127, 145, 137], 75) := by decide +kernel
theorem dX7_ofMarking_84 : decode cX7_ofMarking 84 = .ok (.aload_n 2, 1) := by decide +kernel
theorem dX7_ofMarking_85 : decode cX7_ofMarking 85 = .ok (.getfield 71, 3) := by decide +kernel
theorem dX7_ofMarking_88 : decode cX7_ofMarking 88 = .ok (.invokestatic 108, 3) := by decide +kernel
theorem dX7_ofMarking_91 : decode cX7_ofMarking 91 = .ok (.ireturn, 1) := by decide +kernel
theorem dX7_ofMarking_92 : decode cX7_ofMarking 92 = .ok (.aload_n 2, 1) := by decide +kernel
theorem dX7_ofMarking_93 : decode cX7_ofMarking 93 = .ok (.getfield 231, 3) := by decide +kernel
theorem dX7_ofMarking_96 : decode cX7_ofMarking 96 = .ok (.ireturn, 1) := by decide +kernel
theorem dX7_ofMarking_97 : decode cX7_ofMarking 97 = .ok (.aload_n 2, 1) := by decide +kernel
theorem dX7_ofMarking_98 : decode cX7_ofMarking 98 = .ok (.invokevirtual 234, 3) := by decide +kernel
theorem dX7_ofMarking_101 : decode cX7_ofMarking 101 = .ok (.ireturn, 1) := by decide +kernel
theorem dX7_ofMarking_102 : decode cX7_ofMarking 102 = .ok (.aload_n 2, 1) := by decide +kernel
theorem dX7_ofMarking_103 : decode cX7_ofMarking 103 = .ok (.iload_n 1, 1) := by decide +kernel
theorem dX7_ofMarking_104 : decode cX7_ofMarking 104 = .ok (.iconst 3, 1) := by decide +kernel
theorem dX7_ofMarking_105 : decode cX7_ofMarking 105 = .ok (.isub, 1) := by decide +kernel
theorem dX7_ofMarking_106 : decode cX7_ofMarking 106 = .ok (.invokevirtual 240, 3) := by decide +kernel
theorem dX7_ofMarking_109 : decode cX7_ofMarking 109 = .ok (.ireturn, 1) := by decide +kernel
theorem dX7_ofMarking_110 : decode cX7_ofMarking 110 = .ok (.aload_n 0, 1) := by decide +kernel
theorem dX7_ofMarking_111 : decode cX7_ofMarking 111 = .ok (.getfield 35, 3) := by decide +kernel
theorem dX7_ofMarking_114 : decode cX7_ofMarking 114 = .ok (.aload_n 2, 1) := by decide +kernel
theorem dX7_ofMarking_115 : decode cX7_ofMarking 115 = .ok (.invokevirtual 228, 3) := by decide +kernel
theorem dX7_ofMarking_118 : decode cX7_ofMarking 118 = .ok (.aload_n 0, 1) := by decide +kernel
theorem dX7_ofMarking_119 : decode cX7_ofMarking 119 = .ok (.getfield 35, 3) := by decide +kernel
theorem dX7_ofMarking_122 : decode cX7_ofMarking 122 = .ok (.aload_n 0, 1) := by decide +kernel
theorem dX7_ofMarking_123 : decode cX7_ofMarking 123 = .ok (.getfield 12, 3) := by decide +kernel
theorem dX7_ofMarking_126 : decode cX7_ofMarking 126 = .ok (.getfield 74, 3) := by decide +kernel
theorem dX7_ofMarking_129 : decode cX7_ofMarking 129 = .ok (.sipush 1000, 3) := by decide +kernel
theorem dX7_ofMarking_132 : decode cX7_ofMarking 132 = .ok (.invokevirtual 206, 3) := by decide +kernel
theorem dX7_ofMarking_135 : decode cX7_ofMarking 135 = .ok (.ireturn, 1) := by decide +kernel
theorem dX7_ofMarking_136 : decode cX7_ofMarking 136 = .ok (.aload_n 2, 1) := by decide +kernel
theorem dX7_ofMarking_137 : decode cX7_ofMarking 137 = .ok (.getfield 336, 3) := by decide +kernel
theorem dX7_ofMarking_140 : decode cX7_ofMarking 140 = .ok (.aload_n 2, 1) := by decide +kernel
theorem dX7_ofMarking_141 : decode cX7_ofMarking 141 = .ok (.invokevirtual 209, 3) := by decide +kernel
theorem dX7_ofMarking_144 : decode cX7_ofMarking 144 = .ok (.isub, 1) := by decide +kernel
theorem dX7_ofMarking_145 : decode cX7_ofMarking 145 = .ok (.ireturn, 1) := by decide +kernel
theorem dX7_ofMarking_146 : decode cX7_ofMarking 146 = .ok (.aload_n 2, 1) := by decide +kernel
theorem dX7_ofMarking_147 : decode cX7_ofMarking 147 = .ok (.getfield 81, 3) := by decide +kernel
theorem dX7_ofMarking_150 : decode cX7_ofMarking 150 = .ok (.invokestatic 108, 3) := by decide +kernel
theorem dX7_ofMarking_153 : decode cX7_ofMarking 153 = .ok (.ireturn, 1) := by decide +kernel
theorem dX7_ofMarking_154 : decode cX7_ofMarking 154 = .ok (.iconst (-1), 1) := by decide +kernel
theorem dX7_ofMarking_155 : decode cX7_ofMarking 155 = .ok (.ireturn, 1) := by decide +kernel
theorem dX7_isAsSeen_0 : decode cX7_isAsSeen 0 = .ok (.aload_n 0, 1) := by decide +kernel
theorem dX7_isAsSeen_1 : decode cX7_isAsSeen 1 = .ok (.getfield 35, 3) := by decide +kernel
theorem dX7_isAsSeen_4 : decode cX7_isAsSeen 4 = .ok (.iload_n 2, 1) := by decide +kernel
theorem dX7_isAsSeen_5 : decode cX7_isAsSeen 5 = .ok (.invokevirtual 197, 3) := by decide +kernel
theorem dX7_isAsSeen_8 : decode cX7_isAsSeen 8 = .ok (.iconst 0, 1) := by decide +kernel
theorem dX7_isAsSeen_9 : decode cX7_isAsSeen 9 = .ok (.istore_n 3, 1) := by decide +kernel
theorem dX7_isAsSeen_10 : decode cX7_isAsSeen 10 = .ok (.iload_n 3, 1) := by decide +kernel
theorem dX7_isAsSeen_11 : decode cX7_isAsSeen 11 = .ok (.bipush 40, 2) := by decide +kernel
theorem dX7_isAsSeen_13 : decode cX7_isAsSeen 13 = .ok (.if_icmp .gt 36, 3) := by decide +kernel
theorem dX7_isAsSeen_16 : decode cX7_isAsSeen 16 = .ok (.aload_n 0, 1) := by decide +kernel
theorem dX7_isAsSeen_17 : decode cX7_isAsSeen 17 = .ok (.iload_n 3, 1) := by decide +kernel
theorem dX7_isAsSeen_18 : decode cX7_isAsSeen 18 = .ok (.aload_n 0, 1) := by decide +kernel
theorem dX7_isAsSeen_19 : decode cX7_isAsSeen 19 = .ok (.getfield 35, 3) := by decide +kernel
theorem dX7_isAsSeen_22 : decode cX7_isAsSeen 22 = .ok (.getfield 101, 3) := by decide +kernel
theorem dX7_isAsSeen_25 : decode cX7_isAsSeen 25 = .ok (.invokevirtual 339, 3) := by decide +kernel
theorem dX7_isAsSeen_28 : decode cX7_isAsSeen 28 = .ok (.ifCond .ne 5, 3) := by decide +kernel
theorem dX7_isAsSeen_31 : decode cX7_isAsSeen 31 = .ok (.iconst 0, 1) := by decide +kernel
theorem dX7_isAsSeen_32 : decode cX7_isAsSeen 32 = .ok (.ireturn, 1) := by decide +kernel
theorem dX7_isAsSeen_33 : decode cX7_isAsSeen 33 = .ok (.aload_n 0, 1) := by decide +kernel
theorem dX7_isAsSeen_34 : decode cX7_isAsSeen 34 = .ok (.getfield 35, 3) := by decide +kernel
theorem dX7_isAsSeen_37 : decode cX7_isAsSeen 37 = .ok (.aload_n 1, 1) := by decide +kernel
theorem dX7_isAsSeen_38 : decode cX7_isAsSeen 38 = .ok (.iconst 1, 1) := by decide +kernel
theorem dX7_isAsSeen_39 : decode cX7_isAsSeen 39 = .ok (.invokevirtual 206, 3) := by decide +kernel
theorem dX7_isAsSeen_42 : decode cX7_isAsSeen 42 = .ok (.pop, 1) := by decide +kernel
theorem dX7_isAsSeen_43 : decode cX7_isAsSeen 43 = .ok (.iinc 3 1, 3) := by decide +kernel
theorem dX7_isAsSeen_46 : decode cX7_isAsSeen 46 = .ok (.goto (-36), 3) := by decide +kernel
theorem dX7_isAsSeen_49 : decode cX7_isAsSeen 49 = .ok (.iconst 1, 1) := by decide +kernel
theorem dX7_isAsSeen_50 : decode cX7_isAsSeen 50 = .ok (.ireturn, 1) := by decide +kernel
theorem dX7_isAsSeenBehind_0 : decode cX7_isAsSeenBehind 0 = .ok (.iconst 0, 1) := by decide +kernel
theorem dX7_isAsSeenBehind_1 : decode cX7_isAsSeenBehind 1 = .ok (.istore_n 3, 1) := by decide +kernel
theorem dX7_isAsSeenBehind_2 : decode cX7_isAsSeenBehind 2 = .ok (.iload_n 3, 1) := by decide +kernel
theorem dX7_isAsSeenBehind_3 : decode cX7_isAsSeenBehind 3 = .ok (.aload_n 0, 1) := by decide +kernel
theorem dX7_isAsSeenBehind_4 : decode cX7_isAsSeenBehind 4 = .ok (.getfield 12, 3) := by decide +kernel
theorem dX7_isAsSeenBehind_7 : decode cX7_isAsSeenBehind 7 = .ok (.getfield 243, 3) := by decide +kernel
theorem dX7_isAsSeenBehind_10 : decode cX7_isAsSeenBehind 10 = .ok (.getfield 252, 3) := by decide +kernel
theorem dX7_isAsSeenBehind_13 : decode cX7_isAsSeenBehind 13 = .ok (.if_icmp .ge 65, 3) := by decide +kernel
theorem dX7_isAsSeenBehind_16 : decode cX7_isAsSeenBehind 16 = .ok (.iload_n 2, 1) := by decide +kernel
theorem dX7_isAsSeenBehind_17 : decode cX7_isAsSeenBehind 17 = .ok (.aload_n 0, 1) := by decide +kernel
theorem dX7_isAsSeenBehind_18 : decode cX7_isAsSeenBehind 18 = .ok (.getfield 12, 3) := by decide +kernel
theorem dX7_isAsSeenBehind_21 : decode cX7_isAsSeenBehind 21 = .ok (.getfield 243, 3) := by decide +kernel
theorem dX7_isAsSeenBehind_24 : decode cX7_isAsSeenBehind 24 = .ok (.iload_n 3, 1) := by decide +kernel
theorem dX7_isAsSeenBehind_25 : decode cX7_isAsSeenBehind 25 = .ok (.iconst 0, 1) := by decide +kernel
theorem dX7_isAsSeenBehind_26 : decode cX7_isAsSeenBehind 26 = .ok (.invokevirtual 287, 3) := by decide +kernel
theorem dX7_isAsSeenBehind_29 : decode cX7_isAsSeenBehind 29 = .ok (.invokestatic 104, 3) := by decide +kernel
theorem dX7_isAsSeenBehind_32 : decode cX7_isAsSeenBehind 32 = .ok (.istore 4, 2) := by decide +kernel
theorem dX7_isAsSeenBehind_34 : decode cX7_isAsSeenBehind 34 = .ok (.aload_n 0, 1) := by decide +kernel
theorem dX7_isAsSeenBehind_35 : decode cX7_isAsSeenBehind 35 = .ok (.getfield 12, 3) := by decide +kernel
theorem dX7_isAsSeenBehind_38 : decode cX7_isAsSeenBehind 38 = .ok (.getfield 243, 3) := by decide +kernel
theorem dX7_isAsSeenBehind_41 : decode cX7_isAsSeenBehind 41 = .ok (.iload_n 3, 1) := by decide +kernel
theorem dX7_isAsSeenBehind_42 : decode cX7_isAsSeenBehind 42 = .ok (.iconst 1, 1) := by decide +kernel
theorem dX7_isAsSeenBehind_43 : decode cX7_isAsSeenBehind 43 = .ok (.invokevirtual 287, 3) := by decide +kernel
theorem dX7_isAsSeenBehind_46 : decode cX7_isAsSeenBehind 46 = .ok (.iload_n 1, 1) := by decide +kernel
theorem dX7_isAsSeenBehind_47 : decode cX7_isAsSeenBehind 47 = .ok (.if_icmp .ne 25, 3) := by decide +kernel
theorem dX7_isAsSeenBehind_50 : decode cX7_isAsSeenBehind 50 = .ok (.aload_n 0, 1) := by decide +kernel
theorem dX7_isAsSeenBehind_51 : decode cX7_isAsSeenBehind 51 = .ok (.getfield 12, 3) := by decide +kernel
theorem dX7_isAsSeenBehind_54 : decode cX7_isAsSeenBehind 54 = .ok (.getfield 243, 3) := by decide +kernel
theorem dX7_isAsSeenBehind_57 : decode cX7_isAsSeenBehind 57 = .ok (.iload_n 3, 1) := by decide +kernel
theorem dX7_isAsSeenBehind_58 : decode cX7_isAsSeenBehind 58 = .ok (.iconst 2, 1) := by decide +kernel
theorem dX7_isAsSeenBehind_59 : decode cX7_isAsSeenBehind 59 = .ok (.invokevirtual 287, 3) := by decide +kernel
theorem dX7_isAsSeenBehind_62 : decode cX7_isAsSeenBehind 62 = .ok (.iload 4, 2) := by decide +kernel
theorem dX7_isAsSeenBehind_64 : decode cX7_isAsSeenBehind 64 = .ok (.invokestatic 108, 3) := by decide +kernel
theorem dX7_isAsSeenBehind_67 : decode cX7_isAsSeenBehind 67 = .ok (.if_icmp .eq 5, 3) := by decide +kernel
theorem dX7_isAsSeenBehind_70 : decode cX7_isAsSeenBehind 70 = .ok (.iconst 0, 1) := by decide +kernel
theorem dX7_isAsSeenBehind_71 : decode cX7_isAsSeenBehind 71 = .ok (.ireturn, 1) := by decide +kernel
theorem dX7_isAsSeenBehind_72 : decode cX7_isAsSeenBehind 72 = .ok (.iinc 3 1, 3) := by decide +kernel
theorem dX7_isAsSeenBehind_75 : decode cX7_isAsSeenBehind 75 = .ok (.goto (-73), 3) := by decide +kernel
theorem dX7_isAsSeenBehind_78 : decode cX7_isAsSeenBehind 78 = .ok (.iconst 1, 1) := by decide +kernel
theorem dX7_isAsSeenBehind_79 : decode cX7_isAsSeenBehind 79 = .ok (.ireturn, 1) := by decide +kernel
theorem dX7_isPlannable_0 : decode cX7_isPlannable 0 = .ok (.iload_n 1, 1) := by decide +kernel
theorem dX7_isPlannable_1 : decode cX7_isPlannable 1 = .ok (.tableswitch 75 0 2 #[27, 58, 63], 27) := by decide +kernel
theorem dX7_isPlannable_28 : decode cX7_isPlannable 28 = .ok (.iload_n 2, 1) := by decide +kernel
theorem dX7_isPlannable_29 : decode cX7_isPlannable 29 = .ok (.ifCond .lt 28, 3) := by decide +kernel
theorem dX7_isPlannable_32 : decode cX7_isPlannable 32 = .ok (.aload_n 0, 1) := by decide +kernel
theorem dX7_isPlannable_33 : decode cX7_isPlannable 33 = .ok (.getfield 12, 3) := by decide +kernel
theorem dX7_isPlannable_36 : decode cX7_isPlannable 36 = .ok (.getfield 74, 3) := by decide +kernel
theorem dX7_isPlannable_39 : decode cX7_isPlannable 39 = .ok (.iload_n 2, 1) := by decide +kernel
theorem dX7_isPlannable_40 : decode cX7_isPlannable 40 = .ok (.bipush 10, 2) := by decide +kernel
theorem dX7_isPlannable_42 : decode cX7_isPlannable 42 = .ok (.idiv, 1) := by decide +kernel
theorem dX7_isPlannable_43 : decode cX7_isPlannable 43 = .ok (.iload_n 2, 1) := by decide +kernel
theorem dX7_isPlannable_44 : decode cX7_isPlannable 44 = .ok (.bipush 10, 2) := by decide +kernel
theorem dX7_isPlannable_46 : decode cX7_isPlannable 46 = .ok (.irem, 1) := by decide +kernel
theorem dX7_isPlannable_47 : decode cX7_isPlannable 47 = .ok (.invokevirtual 130, 3) := by decide +kernel
theorem dX7_isPlannable_50 : decode cX7_isPlannable 50 = .ok (.ifCond .eq 7, 3) := by decide +kernel
theorem dX7_isPlannable_53 : decode cX7_isPlannable 53 = .ok (.iconst 1, 1) := by decide +kernel
theorem dX7_isPlannable_54 : decode cX7_isPlannable 54 = .ok (.goto 4, 3) := by decide +kernel
theorem dX7_isPlannable_57 : decode cX7_isPlannable 57 = .ok (.iconst 0, 1) := by decide +kernel
theorem dX7_isPlannable_58 : decode cX7_isPlannable 58 = .ok (.ireturn, 1) := by decide +kernel
theorem dX7_isPlannable_59 : decode cX7_isPlannable 59 = .ok (.iload_n 2, 1) := by decide +kernel
theorem dX7_isPlannable_60 : decode cX7_isPlannable 60 = .ok (.invokestatic 156, 3) := by decide +kernel
theorem dX7_isPlannable_63 : decode cX7_isPlannable 63 = .ok (.ireturn, 1) := by decide +kernel
theorem dX7_isPlannable_64 : decode cX7_isPlannable 64 = .ok (.aload_n 0, 1) := by decide +kernel
theorem dX7_isPlannable_65 : decode cX7_isPlannable 65 = .ok (.getfield 12, 3) := by decide +kernel
theorem dX7_isPlannable_68 : decode cX7_isPlannable 68 = .ok (.getfield 74, 3) := by decide +kernel
theorem dX7_isPlannable_71 : decode cX7_isPlannable 71 = .ok (.iload_n 2, 1) := by decide +kernel
theorem dX7_isPlannable_72 : decode cX7_isPlannable 72 = .ok (.invokevirtual 88, 3) := by decide +kernel
theorem dX7_isPlannable_75 : decode cX7_isPlannable 75 = .ok (.ireturn, 1) := by decide +kernel
theorem dX7_isPlannable_76 : decode cX7_isPlannable 76 = .ok (.iconst 0, 1) := by decide +kernel
theorem dX7_isPlannable_77 : decode cX7_isPlannable 77 = .ok (.ireturn, 1) := by decide +kernel
theorem dX7_isTag_0 : decode cX7_isTag 0 = .ok (.iload_n 0, 1) := by decide +kernel
theorem dX7_isTag_1 : decode cX7_isTag 1 = .ok (.ifCond .lt 13, 3) := by decide +kernel
theorem dX7_isTag_4 : decode cX7_isTag 4 = .ok (.iload_n 0, 1) := by decide +kernel
theorem dX7_isTag_5 : decode cX7_isTag 5 = .ok (.bipush 10, 2) := by decide +kernel
theorem dX7_isTag_7 : decode cX7_isTag 7 = .ok (.if_icmp .ge 7, 3) := by decide +kernel
theorem dX7_isTag_10 : decode cX7_isTag 10 = .ok (.iconst 1, 1) := by decide +kernel
theorem dX7_isTag_11 : decode cX7_isTag 11 = .ok (.goto 4, 3) := by decide +kernel
theorem dX7_isTag_14 : decode cX7_isTag 14 = .ok (.iconst 0, 1) := by decide +kernel
theorem dX7_isTag_15 : decode cX7_isTag 15 = .ok (.ireturn, 1) := by decide +kernel
theorem dX7_isRoot_0 : decode cX7_isRoot 0 = .ok (.iload_n 0, 1) := by decide +kernel
theorem dX7_isRoot_1 : decode cX7_isRoot 1 = .ok (.ifCond .lt 12, 3) := by decide +kernel
theorem dX7_isRoot_4 : decode cX7_isRoot 4 = .ok (.iload_n 0, 1) := by decide +kernel
theorem dX7_isRoot_5 : decode cX7_isRoot 5 = .ok (.iconst 4, 1) := by decide +kernel
theorem dX7_isRoot_6 : decode cX7_isRoot 6 = .ok (.if_icmp .ge 7, 3) := by decide +kernel
theorem dX7_isRoot_9 : decode cX7_isRoot 9 = .ok (.iconst 1, 1) := by decide +kernel
theorem dX7_isRoot_10 : decode cX7_isRoot 10 = .ok (.goto 4, 3) := by decide +kernel
theorem dX7_isRoot_13 : decode cX7_isRoot 13 = .ok (.iconst 0, 1) := by decide +kernel
theorem dX7_isRoot_14 : decode cX7_isRoot 14 = .ok (.ireturn, 1) := by decide +kernel
theorem dX7_isLimit_0 : decode cX7_isLimit 0 = .ok (.iload_n 0, 1) := by decide +kernel
theorem dX7_isLimit_1 : decode cX7_isLimit 1 = .ok (.ifCond .lt 13, 3) := by decide +kernel
theorem dX7_isLimit_4 : decode cX7_isLimit 4 = .ok (.iload_n 0, 1) := by decide +kernel
theorem dX7_isLimit_5 : decode cX7_isLimit 5 = .ok (.bipush 8, 2) := by decide +kernel
theorem dX7_isLimit_7 : decode cX7_isLimit 7 = .ok (.if_icmp .gt 7, 3) := by decide +kernel
theorem dX7_isLimit_10 : decode cX7_isLimit 10 = .ok (.iconst 1, 1) := by decide +kernel
theorem dX7_isLimit_11 : decode cX7_isLimit 11 = .ok (.goto 4, 3) := by decide +kernel
theorem dX7_isLimit_14 : decode cX7_isLimit 14 = .ok (.iconst 0, 1) := by decide +kernel
theorem dX7_isLimit_15 : decode cX7_isLimit 15 = .ok (.ireturn, 1) := by decide +kernel
theorem dX7_isTape_0 : decode cX7_isTape 0 = .ok (.iload_n 0, 1) := by decide +kernel
theorem dX7_isTape_1 : decode cX7_isTape 1 = .ok (.ifCond .lt 13, 3) := by decide +kernel
theorem dX7_isTape_4 : decode cX7_isTape 4 = .ok (.iload_n 0, 1) := by decide +kernel
theorem dX7_isTape_5 : decode cX7_isTape 5 = .ok (.bipush 6, 2) := by decide +kernel
theorem dX7_isTape_7 : decode cX7_isTape 7 = .ok (.if_icmp .ge 7, 3) := by decide +kernel
theorem dX7_isTape_10 : decode cX7_isTape 10 = .ok (.iconst 1, 1) := by decide +kernel
theorem dX7_isTape_11 : decode cX7_isTape 11 = .ok (.goto 4, 3) := by decide +kernel
theorem dX7_isTape_14 : decode cX7_isTape 14 = .ok (.iconst 0, 1) := by decide +kernel
theorem dX7_isTape_15 : decode cX7_isTape 15 = .ok (.ireturn, 1) := by decide +kernel
theorem dX7_asNumber_0 : decode cX7_asNumber 0 = .ok (.iload_n 0, 1) := by decide +kernel
theorem dX7_asNumber_1 : decode cX7_asNumber 1 = .ok (.ifCond .eq 7, 3) := by decide +kernel
theorem dX7_asNumber_4 : decode cX7_asNumber 4 = .ok (.iconst 1, 1) := by decide +kernel
theorem dX7_asNumber_5 : decode cX7_asNumber 5 = .ok (.goto 4, 3) := by decide +kernel
theorem dX7_asNumber_8 : decode cX7_asNumber 8 = .ok (.iconst 0, 1) := by decide +kernel
theorem dX7_asNumber_9 : decode cX7_asNumber 9 = .ok (.ireturn, 1) := by decide +kernel
theorem dX7_orEmpty_0 : decode cX7_orEmpty 0 = .ok (.iload_n 0, 1) := by decide +kernel
theorem dX7_orEmpty_1 : decode cX7_orEmpty 1 = .ok (.iconst (-1), 1) := by decide +kernel
theorem dX7_orEmpty_2 : decode cX7_orEmpty 2 = .ok (.if_icmp .ne 8, 3) := by decide +kernel
theorem dX7_orEmpty_5 : decode cX7_orEmpty 5 = .ok (.bipush (-5), 2) := by decide +kernel
theorem dX7_orEmpty_7 : decode cX7_orEmpty 7 = .ok (.goto 4, 3) := by decide +kernel
theorem dX7_orEmpty_10 : decode cX7_orEmpty 10 = .ok (.iload_n 0, 1) := by decide +kernel
theorem dX7_orEmpty_11 : decode cX7_orEmpty 11 = .ok (.ireturn, 1) := by decide +kernel
theorem dX7_bit_0 : decode cX7_bit 0 = .ok (.iload_n 0, 1) := by decide +kernel
theorem dX7_bit_1 : decode cX7_bit 1 = .ok (.ifCond .lt 15, 3) := by decide +kernel
theorem dX7_bit_4 : decode cX7_bit 4 = .ok (.iload_n 0, 1) := by decide +kernel
theorem dX7_bit_5 : decode cX7_bit 5 = .ok (.bipush 24, 2) := by decide +kernel
theorem dX7_bit_7 : decode cX7_bit 7 = .ok (.if_icmp .ge 9, 3) := by decide +kernel
theorem dX7_bit_10 : decode cX7_bit 10 = .ok (.iconst 1, 1) := by decide +kernel
theorem dX7_bit_11 : decode cX7_bit 11 = .ok (.iload_n 0, 1) := by decide +kernel
theorem dX7_bit_12 : decode cX7_bit 12 = .ok (.ishl, 1) := by decide +kernel
theorem dX7_bit_13 : decode cX7_bit 13 = .ok (.goto 4, 3) := by decide +kernel
theorem dX7_bit_16 : decode cX7_bit 16 = .ok (.iconst 0, 1) := by decide +kernel
theorem dX7_bit_17 : decode cX7_bit 17 = .ok (.ireturn, 1) := by decide +kernel
theorem dX7_has_0 : decode cX7_has 0 = .ok (.iload_n 1, 1) := by decide +kernel
theorem dX7_has_1 : decode cX7_has 1 = .ok (.ifCond .lt 21, 3) := by decide +kernel
theorem dX7_has_4 : decode cX7_has 4 = .ok (.iload_n 1, 1) := by decide +kernel
theorem dX7_has_5 : decode cX7_has 5 = .ok (.bipush 24, 2) := by decide +kernel
theorem dX7_has_7 : decode cX7_has 7 = .ok (.if_icmp .ge 15, 3) := by decide +kernel
theorem dX7_has_10 : decode cX7_has 10 = .ok (.iload_n 0, 1) := by decide +kernel
theorem dX7_has_11 : decode cX7_has 11 = .ok (.iload_n 1, 1) := by decide +kernel
theorem dX7_has_12 : decode cX7_has 12 = .ok (.ishr, 1) := by decide +kernel
theorem dX7_has_13 : decode cX7_has 13 = .ok (.iconst 1, 1) := by decide +kernel
theorem dX7_has_14 : decode cX7_has 14 = .ok (.iand, 1) := by decide +kernel
theorem dX7_has_15 : decode cX7_has 15 = .ok (.ifCond .eq 7, 3) := by decide +kernel
theorem dX7_has_18 : decode cX7_has 18 = .ok (.iconst 1, 1) := by decide +kernel
theorem dX7_has_19 : decode cX7_has 19 = .ok (.goto 4, 3) := by decide +kernel
theorem dX7_has_22 : decode cX7_has 22 = .ok (.iconst 0, 1) := by decide +kernel
theorem dX7_has_23 : decode cX7_has 23 = .ok (.ireturn, 1) := by decide +kernel
theorem dX7_firstOf_0 : decode cX7_firstOf 0 = .ok (.iload_n 0, 1) := by decide +kernel
theorem dX7_firstOf_1 : decode cX7_firstOf 1 = .ok (.iload_n 0, 1) := by decide +kernel
theorem dX7_firstOf_2 : decode cX7_firstOf 2 = .ok (.ineg, 1) := by decide +kernel
theorem dX7_firstOf_3 : decode cX7_firstOf 3 = .ok (.iand, 1) := by decide +kernel
theorem dX7_firstOf_4 : decode cX7_firstOf 4 = .ok (.iconst 1, 1) := by decide +kernel
theorem dX7_firstOf_5 : decode cX7_firstOf 5 = .ok (.isub, 1) := by decide +kernel
theorem dX7_firstOf_6 : decode cX7_firstOf 6 = .ok (.invokestatic 201, 3) := by decide +kernel
theorem dX7_firstOf_9 : decode cX7_firstOf 9 = .ok (.ireturn, 1) := by decide +kernel
theorem dX7_fieldsOf_0 : decode cX7_fieldsOf 0 = .ok (.iload_n 0, 1) := by decide +kernel
theorem dX7_fieldsOf_1 : decode cX7_fieldsOf 1 = .ok (.tableswitch 45 1 6 #[39, 43, 41, 41, 43, 39], 39) := by decide +kernel
theorem dX7_fieldsOf_40 : decode cX7_fieldsOf 40 = .ok (.iconst 2, 1) := by decide +kernel
theorem dX7_fieldsOf_41 : decode cX7_fieldsOf 41 = .ok (.ireturn, 1) := by decide +kernel
theorem dX7_fieldsOf_42 : decode cX7_fieldsOf 42 = .ok (.iconst 1, 1) := by decide +kernel
theorem dX7_fieldsOf_43 : decode cX7_fieldsOf 43 = .ok (.ireturn, 1) := by decide +kernel
theorem dX7_fieldsOf_44 : decode cX7_fieldsOf 44 = .ok (.iload_n 1, 1) := by decide +kernel
theorem dX7_fieldsOf_45 : decode cX7_fieldsOf 45 = .ok (.ireturn, 1) := by decide +kernel
theorem dX7_fieldsOf_46 : decode cX7_fieldsOf 46 = .ok (.iconst 0, 1) := by decide +kernel
theorem dX7_fieldsOf_47 : decode cX7_fieldsOf 47 = .ok (.ireturn, 1) := by decide +kernel
theorem dX7_isFollowed_0 : decode cX7_isFollowed 0 = .ok (.iload_n 0, 1) := by decide +kernel
theorem dX7_isFollowed_1 : decode cX7_isFollowed 1 = .ok (.tableswitch 58 4 6 #[27, 29, 41], 27) := by decide +kernel
theorem dX7_isFollowed_28 : decode cX7_isFollowed 28 = .ok (.iconst 0, 1) := by decide +kernel
theorem dX7_isFollowed_29 : decode cX7_isFollowed 29 = .ok (.ireturn, 1) := by decide +kernel
theorem dX7_isFollowed_30 : decode cX7_isFollowed 30 = .ok (.iload_n 2, 1) := by decide +kernel
theorem dX7_isFollowed_31 : decode cX7_isFollowed 31 = .ok (.iconst 2, 1) := by decide +kernel
theorem dX7_isFollowed_32 : decode cX7_isFollowed 32 = .ok (.irem, 1) := by decide +kernel
theorem dX7_isFollowed_33 : decode cX7_isFollowed 33 = .ok (.ifCond .eq 7, 3) := by decide +kernel
theorem dX7_isFollowed_36 : decode cX7_isFollowed 36 = .ok (.iconst 1, 1) := by decide +kernel
theorem dX7_isFollowed_37 : decode cX7_isFollowed 37 = .ok (.goto 4, 3) := by decide +kernel
theorem dX7_isFollowed_40 : decode cX7_isFollowed 40 = .ok (.iconst 0, 1) := by decide +kernel
theorem dX7_isFollowed_41 : decode cX7_isFollowed 41 = .ok (.ireturn, 1) := by decide +kernel
theorem dX7_isFollowed_42 : decode cX7_isFollowed 42 = .ok (.iload_n 2, 1) := by decide +kernel
theorem dX7_isFollowed_43 : decode cX7_isFollowed 43 = .ok (.iconst 1, 1) := by decide +kernel
theorem dX7_isFollowed_44 : decode cX7_isFollowed 44 = .ok (.if_icmp .ne 9, 3) := by decide +kernel
theorem dX7_isFollowed_47 : decode cX7_isFollowed 47 = .ok (.iload_n 1, 1) := by decide +kernel
theorem dX7_isFollowed_48 : decode cX7_isFollowed 48 = .ok (.iconst 2, 1) := by decide +kernel
theorem dX7_isFollowed_49 : decode cX7_isFollowed 49 = .ok (.irem, 1) := by decide +kernel
theorem dX7_isFollowed_50 : decode cX7_isFollowed 50 = .ok (.ifCond .eq 7, 3) := by decide +kernel
theorem dX7_isFollowed_53 : decode cX7_isFollowed 53 = .ok (.iconst 1, 1) := by decide +kernel
theorem dX7_isFollowed_54 : decode cX7_isFollowed 54 = .ok (.goto 4, 3) := by decide +kernel
theorem dX7_isFollowed_57 : decode cX7_isFollowed 57 = .ok (.iconst 0, 1) := by decide +kernel
theorem dX7_isFollowed_58 : decode cX7_isFollowed 58 = .ok (.ireturn, 1) := by decide +kernel
theorem dX7_isFollowed_59 : decode cX7_isFollowed 59 = .ok (.iconst 1, 1) := by decide +kernel
theorem dX7_isFollowed_60 : decode cX7_isFollowed 60 = .ok (.ireturn, 1) := by decide +kernel
theorem dX7_isUnder_0 : decode cX7_isUnder 0 = .ok (.iload_n 0, 1) := by decide +kernel
theorem dX7_isUnder_1 : decode cX7_isUnder 1 = .ok (.istore_n 2, 1) := by decide +kernel
theorem dX7_isUnder_2 : decode cX7_isUnder 2 = .ok (.iconst 0, 1) := by decide +kernel
theorem dX7_isUnder_3 : decode cX7_isUnder 3 = .ok (.istore_n 3, 1) := by decide +kernel
theorem dX7_isUnder_4 : decode cX7_isUnder 4 = .ok (.iload_n 3, 1) := by decide +kernel
theorem dX7_isUnder_5 : decode cX7_isUnder 5 = .ok (.getstatic 342, 3) := by decide +kernel
theorem dX7_isUnder_8 : decode cX7_isUnder 8 = .ok (.arraylength, 1) := by decide +kernel
theorem dX7_isUnder_9 : decode cX7_isUnder 9 = .ok (.if_icmp .ge 34, 3) := by decide +kernel
theorem dX7_isUnder_12 : decode cX7_isUnder 12 = .ok (.iload_n 2, 1) := by decide +kernel
theorem dX7_isUnder_13 : decode cX7_isUnder 13 = .ok (.ifCond .lt 30, 3) := by decide +kernel
theorem dX7_isUnder_16 : decode cX7_isUnder 16 = .ok (.iload_n 2, 1) := by decide +kernel
theorem dX7_isUnder_17 : decode cX7_isUnder 17 = .ok (.getstatic 342, 3) := by decide +kernel
theorem dX7_isUnder_20 : decode cX7_isUnder 20 = .ok (.arraylength, 1) := by decide +kernel
theorem dX7_isUnder_21 : decode cX7_isUnder 21 = .ok (.if_icmp .ge 22, 3) := by decide +kernel
theorem dX7_isUnder_24 : decode cX7_isUnder 24 = .ok (.iload_n 2, 1) := by decide +kernel
theorem dX7_isUnder_25 : decode cX7_isUnder 25 = .ok (.iload_n 1, 1) := by decide +kernel
theorem dX7_isUnder_26 : decode cX7_isUnder 26 = .ok (.if_icmp .ne 5, 3) := by decide +kernel
theorem dX7_isUnder_29 : decode cX7_isUnder 29 = .ok (.iconst 1, 1) := by decide +kernel
theorem dX7_isUnder_30 : decode cX7_isUnder 30 = .ok (.ireturn, 1) := by decide +kernel
theorem dX7_isUnder_31 : decode cX7_isUnder 31 = .ok (.getstatic 342, 3) := by decide +kernel
theorem dX7_isUnder_34 : decode cX7_isUnder 34 = .ok (.iload_n 2, 1) := by decide +kernel
theorem dX7_isUnder_35 : decode cX7_isUnder 35 = .ok (.iaload, 1) := by decide +kernel
theorem dX7_isUnder_36 : decode cX7_isUnder 36 = .ok (.istore_n 2, 1) := by decide +kernel
theorem dX7_isUnder_37 : decode cX7_isUnder 37 = .ok (.iinc 3 1, 3) := by decide +kernel
theorem dX7_isUnder_40 : decode cX7_isUnder 40 = .ok (.goto (-36), 3) := by decide +kernel
theorem dX7_isUnder_43 : decode cX7_isUnder 43 = .ok (.iconst 0, 1) := by decide +kernel
theorem dX7_isUnder_44 : decode cX7_isUnder 44 = .ok (.ireturn, 1) := by decide +kernel
theorem dX7_bitsFor_0 : decode cX7_bitsFor 0 = .ok (.iconst 0, 1) := by decide +kernel
theorem dX7_bitsFor_1 : decode cX7_bitsFor 1 = .ok (.istore_n 1, 1) := by decide +kernel
theorem dX7_bitsFor_2 : decode cX7_bitsFor 2 = .ok (.iload_n 1, 1) := by decide +kernel
theorem dX7_bitsFor_3 : decode cX7_bitsFor 3 = .ok (.bipush 6, 2) := by decide +kernel
theorem dX7_bitsFor_5 : decode cX7_bitsFor 5 = .ok (.if_icmp .ge 16, 3) := by decide +kernel
theorem dX7_bitsFor_8 : decode cX7_bitsFor 8 = .ok (.iload_n 0, 1) := by decide +kernel
theorem dX7_bitsFor_9 : decode cX7_bitsFor 9 = .ok (.iconst 1, 1) := by decide +kernel
theorem dX7_bitsFor_10 : decode cX7_bitsFor 10 = .ok (.iload_n 1, 1) := by decide +kernel
theorem dX7_bitsFor_11 : decode cX7_bitsFor 11 = .ok (.ishl, 1) := by decide +kernel
theorem dX7_bitsFor_12 : decode cX7_bitsFor 12 = .ok (.if_icmp .le 9, 3) := by decide +kernel
theorem dX7_bitsFor_15 : decode cX7_bitsFor 15 = .ok (.iinc 1 1, 3) := by decide +kernel
theorem dX7_bitsFor_18 : decode cX7_bitsFor 18 = .ok (.goto (-16), 3) := by decide +kernel
theorem dX7_bitsFor_21 : decode cX7_bitsFor 21 = .ok (.iconst 1, 1) := by decide +kernel
theorem dX7_bitsFor_22 : decode cX7_bitsFor 22 = .ok (.iload_n 1, 1) := by decide +kernel
theorem dX7_bitsFor_23 : decode cX7_bitsFor 23 = .ok (.iadd, 1) := by decide +kernel
theorem dX7_bitsFor_24 : decode cX7_bitsFor 24 = .ok (.ireturn, 1) := by decide +kernel
theorem dX7_fraction_0 : decode cX7_fraction 0 = .ok (.iload_n 1, 1) := by decide +kernel
theorem dX7_fraction_1 : decode cX7_fraction 1 = .ok (.ifCond .le 12, 3) := by decide +kernel
theorem dX7_fraction_4 : decode cX7_fraction 4 = .ok (.iload_n 2, 1) := by decide +kernel
theorem dX7_fraction_5 : decode cX7_fraction 5 = .ok (.ifCond .lt 8, 3) := by decide +kernel
theorem dX7_fraction_8 : decode cX7_fraction 8 = .ok (.iload_n 2, 1) := by decide +kernel
theorem dX7_fraction_9 : decode cX7_fraction 9 = .ok (.iconst 1, 1) := by decide +kernel
theorem dX7_fraction_10 : decode cX7_fraction 10 = .ok (.if_icmp .le 7, 3) := by decide +kernel
theorem dX7_fraction_13 : decode cX7_fraction 13 = .ok (.ldc2_w 260, 3) := by decide +kernel
theorem dX7_fraction_16 : decode cX7_fraction 16 = .ok (.lreturn, 1) := by decide +kernel
theorem dX7_fraction_17 : decode cX7_fraction 17 = .ok (.iload_n 2, 1) := by decide +kernel
theorem dX7_fraction_18 : decode cX7_fraction 18 = .ok (.ifCond .ne 7, 3) := by decide +kernel
theorem dX7_fraction_21 : decode cX7_fraction 21 = .ok (.iload_n 0, 1) := by decide +kernel
theorem dX7_fraction_22 : decode cX7_fraction 22 = .ok (.goto 4, 3) := by decide +kernel
theorem dX7_fraction_25 : decode cX7_fraction 25 = .ok (.iload_n 1, 1) := by decide +kernel
theorem dX7_fraction_26 : decode cX7_fraction 26 = .ok (.istore_n 3, 1) := by decide +kernel
theorem dX7_fraction_27 : decode cX7_fraction 27 = .ok (.iload_n 1, 1) := by decide +kernel
theorem dX7_fraction_28 : decode cX7_fraction 28 = .ok (.istore 4, 2) := by decide +kernel
theorem dX7_fraction_30 : decode cX7_fraction 30 = .ok (.iload 4, 2) := by decide +kernel
theorem dX7_fraction_32 : decode cX7_fraction 32 = .ok (.iconst 1, 1) := by decide +kernel
theorem dX7_fraction_33 : decode cX7_fraction 33 = .ok (.if_icmp .le 29, 3) := by decide +kernel
theorem dX7_fraction_36 : decode cX7_fraction 36 = .ok (.iload_n 0, 1) := by decide +kernel
theorem dX7_fraction_37 : decode cX7_fraction 37 = .ok (.iload 4, 2) := by decide +kernel
theorem dX7_fraction_39 : decode cX7_fraction 39 = .ok (.irem, 1) := by decide +kernel
theorem dX7_fraction_40 : decode cX7_fraction 40 = .ok (.ifCond .ne 16, 3) := by decide +kernel
theorem dX7_fraction_43 : decode cX7_fraction 43 = .ok (.iload_n 1, 1) := by decide +kernel
theorem dX7_fraction_44 : decode cX7_fraction 44 = .ok (.iload 4, 2) := by decide +kernel
theorem dX7_fraction_46 : decode cX7_fraction 46 = .ok (.irem, 1) := by decide +kernel
theorem dX7_fraction_47 : decode cX7_fraction 47 = .ok (.ifCond .ne 9, 3) := by decide +kernel
theorem dX7_fraction_50 : decode cX7_fraction 50 = .ok (.iload_n 3, 1) := by decide +kernel
theorem dX7_fraction_51 : decode cX7_fraction 51 = .ok (.iload 4, 2) := by decide +kernel
theorem dX7_fraction_53 : decode cX7_fraction 53 = .ok (.idiv, 1) := by decide +kernel
theorem dX7_fraction_54 : decode cX7_fraction 54 = .ok (.i2l, 1) := by decide +kernel
theorem dX7_fraction_55 : decode cX7_fraction 55 = .ok (.lreturn, 1) := by decide +kernel
theorem dX7_fraction_56 : decode cX7_fraction 56 = .ok (.iinc 4 (-1), 3) := by decide +kernel
theorem dX7_fraction_59 : decode cX7_fraction 59 = .ok (.goto (-29), 3) := by decide +kernel
theorem dX7_fraction_62 : decode cX7_fraction 62 = .ok (.iload_n 3, 1) := by decide +kernel
theorem dX7_fraction_63 : decode cX7_fraction 63 = .ok (.i2l, 1) := by decide +kernel
theorem dX7_fraction_64 : decode cX7_fraction 64 = .ok (.lreturn, 1) := by decide +kernel
theorem dJ6_bitCount_0f7a4_0 : decode cJ6_bitCount_0f7a4 0 = .ok (.iload_n 0, 1) := by decide +kernel
theorem dJ6_bitCount_0f7a4_1 : decode cJ6_bitCount_0f7a4 1 = .ok (.iload_n 0, 1) := by decide +kernel
theorem dJ6_bitCount_0f7a4_2 : decode cJ6_bitCount_0f7a4 2 = .ok (.iconst 1, 1) := by decide +kernel
theorem dJ6_bitCount_0f7a4_3 : decode cJ6_bitCount_0f7a4 3 = .ok (.iushr, 1) := by decide +kernel
theorem dJ6_bitCount_0f7a4_4 : decode cJ6_bitCount_0f7a4 4 = .ok (.ldc_w 265, 3) := by decide +kernel
theorem dJ6_bitCount_0f7a4_7 : decode cJ6_bitCount_0f7a4 7 = .ok (.iand, 1) := by decide +kernel
theorem dJ6_bitCount_0f7a4_8 : decode cJ6_bitCount_0f7a4 8 = .ok (.isub, 1) := by decide +kernel
theorem dJ6_bitCount_0f7a4_9 : decode cJ6_bitCount_0f7a4 9 = .ok (.istore_n 0, 1) := by decide +kernel
theorem dJ6_bitCount_0f7a4_10 : decode cJ6_bitCount_0f7a4 10 = .ok (.iload_n 0, 1) := by decide +kernel
theorem dJ6_bitCount_0f7a4_11 : decode cJ6_bitCount_0f7a4 11 = .ok (.ldc_w 266, 3) := by decide +kernel
theorem dJ6_bitCount_0f7a4_14 : decode cJ6_bitCount_0f7a4 14 = .ok (.iand, 1) := by decide +kernel
theorem dJ6_bitCount_0f7a4_15 : decode cJ6_bitCount_0f7a4 15 = .ok (.iload_n 0, 1) := by decide +kernel
theorem dJ6_bitCount_0f7a4_16 : decode cJ6_bitCount_0f7a4 16 = .ok (.iconst 2, 1) := by decide +kernel
theorem dJ6_bitCount_0f7a4_17 : decode cJ6_bitCount_0f7a4 17 = .ok (.iushr, 1) := by decide +kernel
theorem dJ6_bitCount_0f7a4_18 : decode cJ6_bitCount_0f7a4 18 = .ok (.ldc_w 266, 3) := by decide +kernel
theorem dJ6_bitCount_0f7a4_21 : decode cJ6_bitCount_0f7a4 21 = .ok (.iand, 1) := by decide +kernel
theorem dJ6_bitCount_0f7a4_22 : decode cJ6_bitCount_0f7a4 22 = .ok (.iadd, 1) := by decide +kernel
theorem dJ6_bitCount_0f7a4_23 : decode cJ6_bitCount_0f7a4 23 = .ok (.istore_n 0, 1) := by decide +kernel
theorem dJ6_bitCount_0f7a4_24 : decode cJ6_bitCount_0f7a4 24 = .ok (.iload_n 0, 1) := by decide +kernel
theorem dJ6_bitCount_0f7a4_25 : decode cJ6_bitCount_0f7a4 25 = .ok (.iload_n 0, 1) := by decide +kernel
theorem dJ6_bitCount_0f7a4_26 : decode cJ6_bitCount_0f7a4 26 = .ok (.iconst 4, 1) := by decide +kernel
theorem dJ6_bitCount_0f7a4_27 : decode cJ6_bitCount_0f7a4 27 = .ok (.iushr, 1) := by decide +kernel
theorem dJ6_bitCount_0f7a4_28 : decode cJ6_bitCount_0f7a4 28 = .ok (.iadd, 1) := by decide +kernel
theorem dJ6_bitCount_0f7a4_29 : decode cJ6_bitCount_0f7a4 29 = .ok (.ldc_w 267, 3) := by decide +kernel
theorem dJ6_bitCount_0f7a4_32 : decode cJ6_bitCount_0f7a4 32 = .ok (.iand, 1) := by decide +kernel
theorem dJ6_bitCount_0f7a4_33 : decode cJ6_bitCount_0f7a4 33 = .ok (.istore_n 0, 1) := by decide +kernel
theorem dJ6_bitCount_0f7a4_34 : decode cJ6_bitCount_0f7a4 34 = .ok (.iload_n 0, 1) := by decide +kernel
theorem dJ6_bitCount_0f7a4_35 : decode cJ6_bitCount_0f7a4 35 = .ok (.iload_n 0, 1) := by decide +kernel
theorem dJ6_bitCount_0f7a4_36 : decode cJ6_bitCount_0f7a4 36 = .ok (.bipush 8, 2) := by decide +kernel
theorem dJ6_bitCount_0f7a4_38 : decode cJ6_bitCount_0f7a4 38 = .ok (.iushr, 1) := by decide +kernel
theorem dJ6_bitCount_0f7a4_39 : decode cJ6_bitCount_0f7a4 39 = .ok (.iadd, 1) := by decide +kernel
theorem dJ6_bitCount_0f7a4_40 : decode cJ6_bitCount_0f7a4 40 = .ok (.istore_n 0, 1) := by decide +kernel
theorem dJ6_bitCount_0f7a4_41 : decode cJ6_bitCount_0f7a4 41 = .ok (.iload_n 0, 1) := by decide +kernel
theorem dJ6_bitCount_0f7a4_42 : decode cJ6_bitCount_0f7a4 42 = .ok (.iload_n 0, 1) := by decide +kernel
theorem dJ6_bitCount_0f7a4_43 : decode cJ6_bitCount_0f7a4 43 = .ok (.bipush 16, 2) := by decide +kernel
theorem dJ6_bitCount_0f7a4_45 : decode cJ6_bitCount_0f7a4 45 = .ok (.iushr, 1) := by decide +kernel
theorem dJ6_bitCount_0f7a4_46 : decode cJ6_bitCount_0f7a4 46 = .ok (.iadd, 1) := by decide +kernel
theorem dJ6_bitCount_0f7a4_47 : decode cJ6_bitCount_0f7a4 47 = .ok (.istore_n 0, 1) := by decide +kernel
theorem dJ6_bitCount_0f7a4_48 : decode cJ6_bitCount_0f7a4 48 = .ok (.iload_n 0, 1) := by decide +kernel
theorem dJ6_bitCount_0f7a4_49 : decode cJ6_bitCount_0f7a4 49 = .ok (.bipush 63, 2) := by decide +kernel
theorem dJ6_bitCount_0f7a4_51 : decode cJ6_bitCount_0f7a4 51 = .ok (.iand, 1) := by decide +kernel
theorem dJ6_bitCount_0f7a4_52 : decode cJ6_bitCount_0f7a4 52 = .ok (.ireturn, 1) := by decide +kernel
theorem dJ9_max_7cf53_0 : decode cJ9_max_7cf53 0 = .ok (.iload_n 0, 1) := by decide +kernel
theorem dJ9_max_7cf53_1 : decode cJ9_max_7cf53 1 = .ok (.iload_n 1, 1) := by decide +kernel
theorem dJ9_max_7cf53_2 : decode cJ9_max_7cf53 2 = .ok (.if_icmp .lt 7, 3) := by decide +kernel
theorem dJ9_max_7cf53_5 : decode cJ9_max_7cf53 5 = .ok (.iload_n 0, 1) := by decide +kernel
theorem dJ9_max_7cf53_6 : decode cJ9_max_7cf53 6 = .ok (.goto 4, 3) := by decide +kernel
theorem dJ9_max_7cf53_9 : decode cJ9_max_7cf53 9 = .ok (.iload_n 1, 1) := by decide +kernel
theorem dJ9_max_7cf53_10 : decode cJ9_max_7cf53 10 = .ok (.ireturn, 1) := by decide +kernel
theorem dJ9_min_7cf53_0 : decode cJ9_min_7cf53 0 = .ok (.iload_n 0, 1) := by decide +kernel
theorem dJ9_min_7cf53_1 : decode cJ9_min_7cf53 1 = .ok (.iload_n 1, 1) := by decide +kernel
theorem dJ9_min_7cf53_2 : decode cJ9_min_7cf53 2 = .ok (.if_icmp .gt 7, 3) := by decide +kernel
theorem dJ9_min_7cf53_5 : decode cJ9_min_7cf53 5 = .ok (.iload_n 0, 1) := by decide +kernel
theorem dJ9_min_7cf53_6 : decode cJ9_min_7cf53 6 = .ok (.goto 4, 3) := by decide +kernel
theorem dJ9_min_7cf53_9 : decode cJ9_min_7cf53 9 = .ok (.iload_n 1, 1) := by decide +kernel
theorem dJ9_min_7cf53_10 : decode cJ9_min_7cf53 10 = .ok (.ireturn, 1) := by decide +kernel
theorem dJ7_rangeCheck_23922_0 : decode cJ7_rangeCheck_23922 0 = .ok (.iload_n 1, 1) := by decide +kernel
theorem dJ7_rangeCheck_23922_1 : decode cJ7_rangeCheck_23922 1 = .ok (.iload_n 2, 1) := by decide +kernel
theorem dJ7_rangeCheck_23922_2 : decode cJ7_rangeCheck_23922 2 = .ok (.if_icmp .le 44, 3) := by decide +kernel
theorem dJ7_rangeCheck_23922_5 : decode cJ7_rangeCheck_23922 5 = .ok (.new 43, 3) := by decide +kernel
theorem dJ7_rangeCheck_23922_8 : decode cJ7_rangeCheck_23922 8 = .ok (.dup, 1) := by decide +kernel
theorem dJ7_rangeCheck_23922_9 : decode cJ7_rangeCheck_23922 9 = .ok (.new 45, 3) := by decide +kernel
theorem dJ7_rangeCheck_23922_12 : decode cJ7_rangeCheck_23922 12 = .ok (.dup, 1) := by decide +kernel
theorem dJ7_rangeCheck_23922_13 : decode cJ7_rangeCheck_23922 13 = .ok (.invokespecial 47, 3) := by decide +kernel
theorem dJ7_rangeCheck_23922_16 : decode cJ7_rangeCheck_23922 16 = .ok (.ldc 48, 2) := by decide +kernel
theorem dJ7_rangeCheck_23922_18 : decode cJ7_rangeCheck_23922 18 = .ok (.invokevirtual 50, 3) := by decide +kernel
theorem dJ7_rangeCheck_23922_21 : decode cJ7_rangeCheck_23922 21 = .ok (.iload_n 1, 1) := by decide +kernel
theorem dJ7_rangeCheck_23922_22 : decode cJ7_rangeCheck_23922 22 = .ok (.invokevirtual 54, 3) := by decide +kernel
theorem dJ7_rangeCheck_23922_25 : decode cJ7_rangeCheck_23922 25 = .ok (.ldc 57, 2) := by decide +kernel
theorem dJ7_rangeCheck_23922_27 : decode cJ7_rangeCheck_23922 27 = .ok (.invokevirtual 50, 3) := by decide +kernel
theorem dJ7_rangeCheck_23922_30 : decode cJ7_rangeCheck_23922 30 = .ok (.iload_n 2, 1) := by decide +kernel
theorem dJ7_rangeCheck_23922_31 : decode cJ7_rangeCheck_23922 31 = .ok (.invokevirtual 54, 3) := by decide +kernel
theorem dJ7_rangeCheck_23922_34 : decode cJ7_rangeCheck_23922 34 = .ok (.ldc 59, 2) := by decide +kernel
theorem dJ7_rangeCheck_23922_36 : decode cJ7_rangeCheck_23922 36 = .ok (.invokevirtual 50, 3) := by decide +kernel
theorem dJ7_rangeCheck_23922_39 : decode cJ7_rangeCheck_23922 39 = .ok (.invokevirtual 61, 3) := by decide +kernel
theorem dJ7_rangeCheck_23922_42 : decode cJ7_rangeCheck_23922 42 = .ok (.invokespecial 65, 3) := by decide +kernel
theorem dJ7_rangeCheck_23922_45 : decode cJ7_rangeCheck_23922 45 = .ok (.athrow, 1) := by decide +kernel
theorem dJ7_rangeCheck_23922_46 : decode cJ7_rangeCheck_23922 46 = .ok (.iload_n 1, 1) := by decide +kernel
theorem dJ7_rangeCheck_23922_47 : decode cJ7_rangeCheck_23922 47 = .ok (.ifCond .ge 12, 3) := by decide +kernel
theorem dJ7_rangeCheck_23922_50 : decode cJ7_rangeCheck_23922 50 = .ok (.new 68, 3) := by decide +kernel
theorem dJ7_rangeCheck_23922_53 : decode cJ7_rangeCheck_23922 53 = .ok (.dup, 1) := by decide +kernel
theorem dJ7_rangeCheck_23922_54 : decode cJ7_rangeCheck_23922 54 = .ok (.iload_n 1, 1) := by decide +kernel
theorem dJ7_rangeCheck_23922_55 : decode cJ7_rangeCheck_23922 55 = .ok (.invokespecial 70, 3) := by decide +kernel
theorem dJ7_rangeCheck_23922_58 : decode cJ7_rangeCheck_23922 58 = .ok (.athrow, 1) := by decide +kernel
theorem dJ7_rangeCheck_23922_59 : decode cJ7_rangeCheck_23922 59 = .ok (.iload_n 2, 1) := by decide +kernel
theorem dJ7_rangeCheck_23922_60 : decode cJ7_rangeCheck_23922 60 = .ok (.iload_n 0, 1) := by decide +kernel
theorem dJ7_rangeCheck_23922_61 : decode cJ7_rangeCheck_23922 61 = .ok (.if_icmp .le 12, 3) := by decide +kernel
theorem dJ7_rangeCheck_23922_64 : decode cJ7_rangeCheck_23922 64 = .ok (.new 68, 3) := by decide +kernel
theorem dJ7_rangeCheck_23922_67 : decode cJ7_rangeCheck_23922 67 = .ok (.dup, 1) := by decide +kernel
theorem dJ7_rangeCheck_23922_68 : decode cJ7_rangeCheck_23922 68 = .ok (.iload_n 2, 1) := by decide +kernel
theorem dJ7_rangeCheck_23922_69 : decode cJ7_rangeCheck_23922 69 = .ok (.invokespecial 70, 3) := by decide +kernel
theorem dJ7_rangeCheck_23922_72 : decode cJ7_rangeCheck_23922 72 = .ok (.athrow, 1) := by decide +kernel
theorem dJ7_rangeCheck_23922_73 : decode cJ7_rangeCheck_23922 73 = .ok (.return_, 1) := by decide +kernel
theorem dJ7_fill_bad5a_0 : decode cJ7_fill_bad5a 0 = .ok (.aload_n 0, 1) := by decide +kernel
theorem dJ7_fill_bad5a_1 : decode cJ7_fill_bad5a 1 = .ok (.arraylength, 1) := by decide +kernel
theorem dJ7_fill_bad5a_2 : decode cJ7_fill_bad5a 2 = .ok (.iload_n 1, 1) := by decide +kernel
theorem dJ7_fill_bad5a_3 : decode cJ7_fill_bad5a 3 = .ok (.iload_n 2, 1) := by decide +kernel
theorem dJ7_fill_bad5a_4 : decode cJ7_fill_bad5a 4 = .ok (.invokestatic 13, 3) := by decide +kernel
theorem dJ7_fill_bad5a_7 : decode cJ7_fill_bad5a 7 = .ok (.iload_n 1, 1) := by decide +kernel
theorem dJ7_fill_bad5a_8 : decode cJ7_fill_bad5a 8 = .ok (.istore 5, 2) := by decide +kernel
theorem dJ7_fill_bad5a_10 : decode cJ7_fill_bad5a 10 = .ok (.iload 5, 2) := by decide +kernel
theorem dJ7_fill_bad5a_12 : decode cJ7_fill_bad5a 12 = .ok (.iload_n 2, 1) := by decide +kernel
theorem dJ7_fill_bad5a_13 : decode cJ7_fill_bad5a 13 = .ok (.if_icmp .ge 14, 3) := by decide +kernel
theorem dJ7_fill_bad5a_16 : decode cJ7_fill_bad5a 16 = .ok (.aload_n 0, 1) := by decide +kernel
theorem dJ7_fill_bad5a_17 : decode cJ7_fill_bad5a 17 = .ok (.iload 5, 2) := by decide +kernel
theorem dJ7_fill_bad5a_19 : decode cJ7_fill_bad5a 19 = .ok (.lload_n 3, 1) := by decide +kernel
theorem dJ7_fill_bad5a_20 : decode cJ7_fill_bad5a 20 = .ok (.lastore, 1) := by decide +kernel
theorem dJ7_fill_bad5a_21 : decode cJ7_fill_bad5a 21 = .ok (.iinc 5 1, 3) := by decide +kernel
theorem dJ7_fill_bad5a_24 : decode cJ7_fill_bad5a 24 = .ok (.goto (-14), 3) := by decide +kernel
theorem dJ7_fill_bad5a_27 : decode cJ7_fill_bad5a 27 = .ok (.return_, 1) := by decide +kernel
theorem dJ7_fill_53178_0 : decode cJ7_fill_53178 0 = .ok (.iconst 0, 1) := by decide +kernel
theorem dJ7_fill_53178_1 : decode cJ7_fill_53178 1 = .ok (.istore_n 2, 1) := by decide +kernel
theorem dJ7_fill_53178_2 : decode cJ7_fill_53178 2 = .ok (.aload_n 0, 1) := by decide +kernel
theorem dJ7_fill_53178_3 : decode cJ7_fill_53178 3 = .ok (.arraylength, 1) := by decide +kernel
theorem dJ7_fill_53178_4 : decode cJ7_fill_53178 4 = .ok (.istore_n 3, 1) := by decide +kernel
theorem dJ7_fill_53178_5 : decode cJ7_fill_53178 5 = .ok (.iload_n 2, 1) := by decide +kernel
theorem dJ7_fill_53178_6 : decode cJ7_fill_53178 6 = .ok (.iload_n 3, 1) := by decide +kernel
theorem dJ7_fill_53178_7 : decode cJ7_fill_53178 7 = .ok (.if_icmp .ge 13, 3) := by decide +kernel
theorem dJ7_fill_53178_10 : decode cJ7_fill_53178 10 = .ok (.aload_n 0, 1) := by decide +kernel
theorem dJ7_fill_53178_11 : decode cJ7_fill_53178 11 = .ok (.iload_n 2, 1) := by decide +kernel
theorem dJ7_fill_53178_12 : decode cJ7_fill_53178 12 = .ok (.iload_n 1, 1) := by decide +kernel
theorem dJ7_fill_53178_13 : decode cJ7_fill_53178 13 = .ok (.iastore, 1) := by decide +kernel
theorem dJ7_fill_53178_14 : decode cJ7_fill_53178 14 = .ok (.iinc 2 1, 3) := by decide +kernel
theorem dJ7_fill_53178_17 : decode cJ7_fill_53178 17 = .ok (.goto (-12), 3) := by decide +kernel
theorem dJ7_fill_53178_20 : decode cJ7_fill_53178 20 = .ok (.return_, 1) := by decide +kernel
end
section
theorem dX8_in_0 : decode cX8_in 0 = .ok (.lload_n 0, 1) := by decide +kernel
theorem dX8_in_1 : decode cX8_in 1 = .ok (.lload_n 2, 1) := by decide +kernel
theorem dX8_in_2 : decode cX8_in 2 = .ok (.lcmp, 1) := by decide +kernel
theorem dX8_in_3 : decode cX8_in 3 = .ok (.ifCond .lt 14, 3) := by decide +kernel
theorem dX8_in_6 : decode cX8_in 6 = .ok (.lload_n 0, 1) := by decide +kernel
theorem dX8_in_7 : decode cX8_in 7 = .ok (.lload 4, 2) := by decide +kernel
theorem dX8_in_9 : decode cX8_in 9 = .ok (.lcmp, 1) := by decide +kernel
theorem dX8_in_10 : decode cX8_in 10 = .ok (.ifCond .gt 7, 3) := by decide +kernel
theorem dX8_in_13 : decode cX8_in 13 = .ok (.iconst 1, 1) := by decide +kernel
theorem dX8_in_14 : decode cX8_in 14 = .ok (.goto 4, 3) := by decide +kernel
theorem dX8_in_17 : decode cX8_in 17 = .ok (.iconst 0, 1) := by decide +kernel
theorem dX8_in_18 : decode cX8_in 18 = .ok (.ireturn, 1) := by decide +kernel
theorem dX8_bit_0 : decode cX8_bit 0 = .ok (.iload_n 0, 1) := by decide +kernel
theorem dX8_bit_1 : decode cX8_bit 1 = .ok (.iload_n 1, 1) := by decide +kernel
theorem dX8_bit_2 : decode cX8_bit 2 = .ok (.ishr, 1) := by decide +kernel
theorem dX8_bit_3 : decode cX8_bit 3 = .ok (.iconst 1, 1) := by decide +kernel
theorem dX8_bit_4 : decode cX8_bit 4 = .ok (.iand, 1) := by decide +kernel
theorem dX8_bit_5 : decode cX8_bit 5 = .ok (.iconst 1, 1) := by decide +kernel
theorem dX8_bit_6 : decode cX8_bit 6 = .ok (.if_icmp .ne 7, 3) := by decide +kernel
theorem dX8_bit_9 : decode cX8_bit 9 = .ok (.iconst 1, 1) := by decide +kernel
theorem dX8_bit_10 : decode cX8_bit 10 = .ok (.goto 4, 3) := by decide +kernel
theorem dX8_bit_13 : decode cX8_bit 13 = .ok (.iconst 0, 1) := by decide +kernel
theorem dX8_bit_14 : decode cX8_bit 14 = .ok (.ireturn, 1) := by decide +kernel
theorem dX8_copies_0 : decode cX8_copies 0 = .ok (.iconst 0, 1) := by decide +kernel
theorem dX8_copies_1 : decode cX8_copies 1 = .ok (.istore_n 2, 1) := by decide +kernel
theorem dX8_copies_2 : decode cX8_copies 2 = .ok (.iload_n 2, 1) := by decide +kernel
theorem dX8_copies_3 : decode cX8_copies 3 = .ok (.sipush 346, 3) := by decide +kernel
theorem dX8_copies_6 : decode cX8_copies 6 = .ok (.if_icmp .ge 15, 3) := by decide +kernel
theorem dX8_copies_9 : decode cX8_copies 9 = .ok (.aload_n 1, 1) := by decide +kernel
theorem dX8_copies_10 : decode cX8_copies 10 = .ok (.iload_n 2, 1) := by decide +kernel
theorem dX8_copies_11 : decode cX8_copies 11 = .ok (.aload_n 0, 1) := by decide +kernel
theorem dX8_copies_12 : decode cX8_copies 12 = .ok (.iload_n 2, 1) := by decide +kernel
theorem dX8_copies_13 : decode cX8_copies 13 = .ok (.iaload, 1) := by decide +kernel
theorem dX8_copies_14 : decode cX8_copies 14 = .ok (.iastore, 1) := by decide +kernel
theorem dX8_copies_15 : decode cX8_copies 15 = .ok (.iinc 2 1, 3) := by decide +kernel
theorem dX8_copies_18 : decode cX8_copies 18 = .ok (.goto (-16), 3) := by decide +kernel
theorem dX8_copies_21 : decode cX8_copies 21 = .ok (.return_, 1) := by decide +kernel
theorem dX8_init_0 : decode cX8_init 0 = .ok (.aload_n 0, 1) := by decide +kernel
theorem dX8_init_1 : decode cX8_init 1 = .ok (.invokespecial 5, 3) := by decide +kernel
theorem dX8_init_4 : decode cX8_init 4 = .ok (.aload_n 0, 1) := by decide +kernel
theorem dX8_init_5 : decode cX8_init 5 = .ok (.sipush 346, 3) := by decide +kernel
theorem dX8_init_8 : decode cX8_init 8 = .ok (.newarray .int, 2) := by decide +kernel
theorem dX8_init_10 : decode cX8_init 10 = .ok (.putfield 11, 3) := by decide +kernel
theorem dX8_init_13 : decode cX8_init 13 = .ok (.aload_n 0, 1) := by decide +kernel
theorem dX8_init_14 : decode cX8_init 14 = .ok (.sipush 346, 3) := by decide +kernel
theorem dX8_init_17 : decode cX8_init 17 = .ok (.newarray .int, 2) := by decide +kernel
theorem dX8_init_19 : decode cX8_init 19 = .ok (.putfield 15, 3) := by decide +kernel
theorem dX8_init_22 : decode cX8_init 22 = .ok (.aload_n 0, 1) := by decide +kernel
theorem dX8_init_23 : decode cX8_init 23 = .ok (.sipush 346, 3) := by decide +kernel
theorem dX8_init_26 : decode cX8_init 26 = .ok (.newarray .int, 2) := by decide +kernel
theorem dX8_init_28 : decode cX8_init 28 = .ok (.putfield 18, 3) := by decide +kernel
theorem dX8_init_31 : decode cX8_init 31 = .ok (.aload_n 0, 1) := by decide +kernel
theorem dX8_init_32 : decode cX8_init 32 = .ok (.bipush 100, 2) := by decide +kernel
theorem dX8_init_34 : decode cX8_init 34 = .ok (.newarray .int, 2) := by decide +kernel
theorem dX8_init_36 : decode cX8_init 36 = .ok (.putfield 21, 3) := by decide +kernel
theorem dX8_init_39 : decode cX8_init 39 = .ok (.aload_n 0, 1) := by decide +kernel
theorem dX8_init_40 : decode cX8_init 40 = .ok (.bipush 8, 2) := by decide +kernel
theorem dX8_init_42 : decode cX8_init 42 = .ok (.newarray .int, 2) := by decide +kernel
theorem dX8_init_44 : decode cX8_init 44 = .ok (.putfield 24, 3) := by decide +kernel
theorem dX8_init_47 : decode cX8_init 47 = .ok (.aload_n 0, 1) := by decide +kernel
theorem dX8_init_48 : decode cX8_init 48 = .ok (.bipush 8, 2) := by decide +kernel
theorem dX8_init_50 : decode cX8_init 50 = .ok (.newarray .int, 2) := by decide +kernel
theorem dX8_init_52 : decode cX8_init 52 = .ok (.putfield 27, 3) := by decide +kernel
theorem dX8_init_55 : decode cX8_init 55 = .ok (.aload_n 0, 1) := by decide +kernel
theorem dX8_init_56 : decode cX8_init 56 = .ok (.bipush 8, 2) := by decide +kernel
theorem dX8_init_58 : decode cX8_init 58 = .ok (.newarray .int, 2) := by decide +kernel
theorem dX8_init_60 : decode cX8_init 60 = .ok (.putfield 30, 3) := by decide +kernel
theorem dX8_init_63 : decode cX8_init 63 = .ok (.aload_n 0, 1) := by decide +kernel
theorem dX8_init_64 : decode cX8_init 64 = .ok (.bipush 101, 2) := by decide +kernel
theorem dX8_init_66 : decode cX8_init 66 = .ok (.newarray .int, 2) := by decide +kernel
theorem dX8_init_68 : decode cX8_init 68 = .ok (.putfield 33, 3) := by decide +kernel
theorem dX8_init_71 : decode cX8_init 71 = .ok (.aload_n 0, 1) := by decide +kernel
theorem dX8_init_72 : decode cX8_init 72 = .ok (.bipush 101, 2) := by decide +kernel
theorem dX8_init_74 : decode cX8_init 74 = .ok (.newarray .int, 2) := by decide +kernel
theorem dX8_init_76 : decode cX8_init 76 = .ok (.putfield 36, 3) := by decide +kernel
theorem dX8_init_79 : decode cX8_init 79 = .ok (.aload_n 0, 1) := by decide +kernel
theorem dX8_init_80 : decode cX8_init 80 = .ok (.bipush 101, 2) := by decide +kernel
theorem dX8_init_82 : decode cX8_init 82 = .ok (.newarray .int, 2) := by decide +kernel
theorem dX8_init_84 : decode cX8_init 84 = .ok (.putfield 39, 3) := by decide +kernel
theorem dX8_init_87 : decode cX8_init 87 = .ok (.aload_n 0, 1) := by decide +kernel
theorem dX8_init_88 : decode cX8_init 88 = .ok (.sipush 606, 3) := by decide +kernel
theorem dX8_init_91 : decode cX8_init 91 = .ok (.newarray .int, 2) := by decide +kernel
theorem dX8_init_93 : decode cX8_init 93 = .ok (.putfield 42, 3) := by decide +kernel
theorem dX8_init_96 : decode cX8_init 96 = .ok (.aload_n 0, 1) := by decide +kernel
theorem dX8_init_97 : decode cX8_init 97 = .ok (.bipush 6, 2) := by decide +kernel
theorem dX8_init_99 : decode cX8_init 99 = .ok (.newarray .int, 2) := by decide +kernel
theorem dX8_init_101 : decode cX8_init 101 = .ok (.dup, 1) := by decide +kernel
theorem dX8_init_102 : decode cX8_init 102 = .ok (.iconst 0, 1) := by decide +kernel
theorem dX8_init_103 : decode cX8_init 103 = .ok (.iconst (-1), 1) := by decide +kernel
theorem dX8_init_104 : decode cX8_init 104 = .ok (.iastore, 1) := by decide +kernel
theorem dX8_init_105 : decode cX8_init 105 = .ok (.dup, 1) := by decide +kernel
theorem dX8_init_106 : decode cX8_init 106 = .ok (.iconst 1, 1) := by decide +kernel
theorem dX8_init_107 : decode cX8_init 107 = .ok (.iconst (-1), 1) := by decide +kernel
theorem dX8_init_108 : decode cX8_init 108 = .ok (.iastore, 1) := by decide +kernel
theorem dX8_init_109 : decode cX8_init 109 = .ok (.dup, 1) := by decide +kernel
theorem dX8_init_110 : decode cX8_init 110 = .ok (.iconst 2, 1) := by decide +kernel
theorem dX8_init_111 : decode cX8_init 111 = .ok (.iconst (-1), 1) := by decide +kernel
theorem dX8_init_112 : decode cX8_init 112 = .ok (.iastore, 1) := by decide +kernel
theorem dX8_init_113 : decode cX8_init 113 = .ok (.dup, 1) := by decide +kernel
theorem dX8_init_114 : decode cX8_init 114 = .ok (.iconst 3, 1) := by decide +kernel
theorem dX8_init_115 : decode cX8_init 115 = .ok (.iconst (-1), 1) := by decide +kernel
theorem dX8_init_116 : decode cX8_init 116 = .ok (.iastore, 1) := by decide +kernel
theorem dX8_init_117 : decode cX8_init 117 = .ok (.dup, 1) := by decide +kernel
theorem dX8_init_118 : decode cX8_init 118 = .ok (.iconst 4, 1) := by decide +kernel
theorem dX8_init_119 : decode cX8_init 119 = .ok (.iconst (-1), 1) := by decide +kernel
theorem dX8_init_120 : decode cX8_init 120 = .ok (.iastore, 1) := by decide +kernel
theorem dX8_init_121 : decode cX8_init 121 = .ok (.dup, 1) := by decide +kernel
theorem dX8_init_122 : decode cX8_init 122 = .ok (.iconst 5, 1) := by decide +kernel
theorem dX8_init_123 : decode cX8_init 123 = .ok (.iconst (-1), 1) := by decide +kernel
theorem dX8_init_124 : decode cX8_init 124 = .ok (.iastore, 1) := by decide +kernel
theorem dX8_init_125 : decode cX8_init 125 = .ok (.putfield 45, 3) := by decide +kernel
theorem dX8_init_128 : decode cX8_init 128 = .ok (.aload_n 0, 1) := by decide +kernel
theorem dX8_init_129 : decode cX8_init 129 = .ok (.bipush 6, 2) := by decide +kernel
theorem dX8_init_131 : decode cX8_init 131 = .ok (.newarray .int, 2) := by decide +kernel
theorem dX8_init_133 : decode cX8_init 133 = .ok (.putfield 48, 3) := by decide +kernel
theorem dX8_init_136 : decode cX8_init 136 = .ok (.aload_n 0, 1) := by decide +kernel
theorem dX8_init_137 : decode cX8_init 137 = .ok (.sipush 360, 3) := by decide +kernel
theorem dX8_init_140 : decode cX8_init 140 = .ok (.newarray .long, 2) := by decide +kernel
theorem dX8_init_142 : decode cX8_init 142 = .ok (.putfield 51, 3) := by decide +kernel
theorem dX8_init_145 : decode cX8_init 145 = .ok (.iconst 0, 1) := by decide +kernel
theorem dX8_init_146 : decode cX8_init 146 = .ok (.istore_n 1, 1) := by decide +kernel
theorem dX8_init_147 : decode cX8_init 147 = .ok (.iload_n 1, 1) := by decide +kernel
theorem dX8_init_148 : decode cX8_init 148 = .ok (.iconst 4, 1) := by decide +kernel
theorem dX8_init_149 : decode cX8_init 149 = .ok (.if_icmp .ge 20, 3) := by decide +kernel
theorem dX8_init_152 : decode cX8_init 152 = .ok (.aload_n 0, 1) := by decide +kernel
theorem dX8_init_153 : decode cX8_init 153 = .ok (.getfield 11, 3) := by decide +kernel
theorem dX8_init_156 : decode cX8_init 156 = .ok (.bipush 16, 2) := by decide +kernel
theorem dX8_init_158 : decode cX8_init 158 = .ok (.iload_n 1, 1) := by decide +kernel
theorem dX8_init_159 : decode cX8_init 159 = .ok (.iadd, 1) := by decide +kernel
theorem dX8_init_160 : decode cX8_init 160 = .ok (.bipush (-5), 2) := by decide +kernel
theorem dX8_init_162 : decode cX8_init 162 = .ok (.iastore, 1) := by decide +kernel
theorem dX8_init_163 : decode cX8_init 163 = .ok (.iinc 1 1, 3) := by decide +kernel
theorem dX8_init_166 : decode cX8_init 166 = .ok (.goto (-19), 3) := by decide +kernel
theorem dX8_init_169 : decode cX8_init 169 = .ok (.aload_n 0, 1) := by decide +kernel
theorem dX8_init_170 : decode cX8_init 170 = .ok (.getfield 11, 3) := by decide +kernel
theorem dX8_init_173 : decode cX8_init 173 = .ok (.iconst 4, 1) := by decide +kernel
theorem dX8_init_174 : decode cX8_init 174 = .ok (.bipush (-5), 2) := by decide +kernel
theorem dX8_init_176 : decode cX8_init 176 = .ok (.iastore, 1) := by decide +kernel
theorem dX8_init_177 : decode cX8_init 177 = .ok (.return_, 1) := by decide +kernel
theorem dX8_isThere_0 : decode cX8_isThere 0 = .ok (.iload_n 1, 1) := by decide +kernel
theorem dX8_isThere_1 : decode cX8_isThere 1 = .ok (.i2l, 1) := by decide +kernel
theorem dX8_isThere_2 : decode cX8_isThere 2 = .ok (.lconst 0, 1) := by decide +kernel
theorem dX8_isThere_3 : decode cX8_isThere 3 = .ok (.ldc2_w 55, 3) := by decide +kernel
theorem dX8_isThere_6 : decode cX8_isThere 6 = .ok (.invokestatic 57, 3) := by decide +kernel
theorem dX8_isThere_9 : decode cX8_isThere 9 = .ok (.ifCond .eq 20, 3) := by decide +kernel
theorem dX8_isThere_12 : decode cX8_isThere 12 = .ok (.aload_n 0, 1) := by decide +kernel
theorem dX8_isThere_13 : decode cX8_isThere 13 = .ok (.getfield 11, 3) := by decide +kernel
theorem dX8_isThere_16 : decode cX8_isThere 16 = .ok (.iconst 1, 1) := by decide +kernel
theorem dX8_isThere_17 : decode cX8_isThere 17 = .ok (.iaload, 1) := by decide +kernel
theorem dX8_isThere_18 : decode cX8_isThere 18 = .ok (.iload_n 1, 1) := by decide +kernel
theorem dX8_isThere_19 : decode cX8_isThere 19 = .ok (.invokestatic 61, 3) := by decide +kernel
theorem dX8_isThere_22 : decode cX8_isThere 22 = .ok (.ifCond .eq 7, 3) := by decide +kernel
theorem dX8_isThere_25 : decode cX8_isThere 25 = .ok (.iconst 1, 1) := by decide +kernel
theorem dX8_isThere_26 : decode cX8_isThere 26 = .ok (.goto 4, 3) := by decide +kernel
theorem dX8_isThere_29 : decode cX8_isThere 29 = .ok (.iconst 0, 1) := by decide +kernel
theorem dX8_isThere_30 : decode cX8_isThere 30 = .ok (.ireturn, 1) := by decide +kernel
theorem dX8_isField_0 : decode cX8_isField 0 = .ok (.aload_n 0, 1) := by decide +kernel
theorem dX8_isField_1 : decode cX8_isField 1 = .ok (.iload_n 1, 1) := by decide +kernel
theorem dX8_isField_2 : decode cX8_isField 2 = .ok (.invokevirtual 65, 3) := by decide +kernel
theorem dX8_isField_5 : decode cX8_isField 5 = .ok (.ifCond .eq 28, 3) := by decide +kernel
theorem dX8_isField_8 : decode cX8_isField 8 = .ok (.iload_n 2, 1) := by decide +kernel
theorem dX8_isField_9 : decode cX8_isField 9 = .ok (.i2l, 1) := by decide +kernel
theorem dX8_isField_10 : decode cX8_isField 10 = .ok (.lconst 0, 1) := by decide +kernel
theorem dX8_isField_11 : decode cX8_isField 11 = .ok (.aload_n 0, 1) := by decide +kernel
theorem dX8_isField_12 : decode cX8_isField 12 = .ok (.getfield 11, 3) := by decide +kernel
theorem dX8_isField_15 : decode cX8_isField 15 = .ok (.bipush 68, 2) := by decide +kernel
theorem dX8_isField_17 : decode cX8_isField 17 = .ok (.iload_n 1, 1) := by decide +kernel
theorem dX8_isField_18 : decode cX8_isField 18 = .ok (.iadd, 1) := by decide +kernel
theorem dX8_isField_19 : decode cX8_isField 19 = .ok (.iaload, 1) := by decide +kernel
theorem dX8_isField_20 : decode cX8_isField 20 = .ok (.iconst 1, 1) := by decide +kernel
theorem dX8_isField_21 : decode cX8_isField 21 = .ok (.isub, 1) := by decide +kernel
theorem dX8_isField_22 : decode cX8_isField 22 = .ok (.i2l, 1) := by decide +kernel
theorem dX8_isField_23 : decode cX8_isField 23 = .ok (.invokestatic 57, 3) := by decide +kernel
theorem dX8_isField_26 : decode cX8_isField 26 = .ok (.ifCond .eq 7, 3) := by decide +kernel
theorem dX8_isField_29 : decode cX8_isField 29 = .ok (.iconst 1, 1) := by decide +kernel
theorem dX8_isField_30 : decode cX8_isField 30 = .ok (.goto 4, 3) := by decide +kernel
theorem dX8_isField_33 : decode cX8_isField 33 = .ok (.iconst 0, 1) := by decide +kernel
theorem dX8_isField_34 : decode cX8_isField 34 = .ok (.ireturn, 1) := by decide +kernel
theorem dX8_comes_0 : decode cX8_comes 0 = .ok (.aload_n 0, 1) := by decide +kernel
theorem dX8_comes_1 : decode cX8_comes 1 = .ok (.iconst 0, 1) := by decide +kernel
theorem dX8_comes_2 : decode cX8_comes 2 = .ok (.iaload, 1) := by decide +kernel
theorem dX8_comes_3 : decode cX8_comes 3 = .ok (.istore 4, 2) := by decide +kernel
theorem dX8_comes_5 : decode cX8_comes 5 = .ok (.aload_n 0, 1) := by decide +kernel
theorem dX8_comes_6 : decode cX8_comes 6 = .ok (.bipush 20, 2) := by decide +kernel
theorem dX8_comes_8 : decode cX8_comes 8 = .ok (.iload 4, 2) := by decide +kernel
theorem dX8_comes_10 : decode cX8_comes 10 = .ok (.iadd, 1) := by decide +kernel
theorem dX8_comes_11 : decode cX8_comes 11 = .ok (.iload_n 1, 1) := by decide +kernel
theorem dX8_comes_12 : decode cX8_comes 12 = .ok (.iastore, 1) := by decide +kernel
theorem dX8_comes_13 : decode cX8_comes 13 = .ok (.aload_n 0, 1) := by decide +kernel
theorem dX8_comes_14 : decode cX8_comes 14 = .ok (.bipush 44, 2) := by decide +kernel
theorem dX8_comes_16 : decode cX8_comes 16 = .ok (.iload 4, 2) := by decide +kernel
theorem dX8_comes_18 : decode cX8_comes 18 = .ok (.iadd, 1) := by decide +kernel
theorem dX8_comes_19 : decode cX8_comes 19 = .ok (.iload_n 2, 1) := by decide +kernel
theorem dX8_comes_20 : decode cX8_comes 20 = .ok (.iastore, 1) := by decide +kernel
theorem dX8_comes_21 : decode cX8_comes 21 = .ok (.aload_n 0, 1) := by decide +kernel
theorem dX8_comes_22 : decode cX8_comes 22 = .ok (.bipush 68, 2) := by decide +kernel
theorem dX8_comes_24 : decode cX8_comes 24 = .ok (.iload 4, 2) := by decide +kernel
theorem dX8_comes_26 : decode cX8_comes 26 = .ok (.iadd, 1) := by decide +kernel
theorem dX8_comes_27 : decode cX8_comes 27 = .ok (.iload_n 3, 1) := by decide +kernel
theorem dX8_comes_28 : decode cX8_comes 28 = .ok (.iastore, 1) := by decide +kernel
theorem dX8_comes_29 : decode cX8_comes 29 = .ok (.aload_n 0, 1) := by decide +kernel
theorem dX8_comes_30 : decode cX8_comes 30 = .ok (.bipush 92, 2) := by decide +kernel
theorem dX8_comes_32 : decode cX8_comes 32 = .ok (.iload 4, 2) := by decide +kernel
theorem dX8_comes_34 : decode cX8_comes 34 = .ok (.iadd, 1) := by decide +kernel
theorem dX8_comes_35 : decode cX8_comes 35 = .ok (.iconst 0, 1) := by decide +kernel
theorem dX8_comes_36 : decode cX8_comes 36 = .ok (.iastore, 1) := by decide +kernel
theorem dX8_comes_37 : decode cX8_comes 37 = .ok (.iconst 0, 1) := by decide +kernel
theorem dX8_comes_38 : decode cX8_comes 38 = .ok (.istore 5, 2) := by decide +kernel
theorem dX8_comes_40 : decode cX8_comes 40 = .ok (.iload 5, 2) := by decide +kernel
theorem dX8_comes_42 : decode cX8_comes 42 = .ok (.bipush 6, 2) := by decide +kernel
theorem dX8_comes_44 : decode cX8_comes 44 = .ok (.if_icmp .ge 25, 3) := by decide +kernel
theorem dX8_comes_47 : decode cX8_comes 47 = .ok (.aload_n 0, 1) := by decide +kernel
theorem dX8_comes_48 : decode cX8_comes 48 = .ok (.sipush 140, 3) := by decide +kernel
theorem dX8_comes_51 : decode cX8_comes 51 = .ok (.bipush 6, 2) := by decide +kernel
theorem dX8_comes_53 : decode cX8_comes 53 = .ok (.iload 4, 2) := by decide +kernel
theorem dX8_comes_55 : decode cX8_comes 55 = .ok (.imul, 1) := by decide +kernel
theorem dX8_comes_56 : decode cX8_comes 56 = .ok (.iadd, 1) := by decide +kernel
theorem dX8_comes_57 : decode cX8_comes 57 = .ok (.iload 5, 2) := by decide +kernel
theorem dX8_comes_59 : decode cX8_comes 59 = .ok (.iadd, 1) := by decide +kernel
theorem dX8_comes_60 : decode cX8_comes 60 = .ok (.bipush (-5), 2) := by decide +kernel
theorem dX8_comes_62 : decode cX8_comes 62 = .ok (.iastore, 1) := by decide +kernel
theorem dX8_comes_63 : decode cX8_comes 63 = .ok (.iinc 5 1, 3) := by decide +kernel
theorem dX8_comes_66 : decode cX8_comes 66 = .ok (.goto (-26), 3) := by decide +kernel
theorem dX8_comes_69 : decode cX8_comes 69 = .ok (.aload_n 0, 1) := by decide +kernel
theorem dX8_comes_70 : decode cX8_comes 70 = .ok (.iconst 1, 1) := by decide +kernel
theorem dX8_comes_71 : decode cX8_comes 71 = .ok (.dup2, 1) := by decide +kernel
theorem dX8_comes_72 : decode cX8_comes 72 = .ok (.iaload, 1) := by decide +kernel
theorem dX8_comes_73 : decode cX8_comes 73 = .ok (.iconst 1, 1) := by decide +kernel
theorem dX8_comes_74 : decode cX8_comes 74 = .ok (.iload 4, 2) := by decide +kernel
theorem dX8_comes_76 : decode cX8_comes 76 = .ok (.ishl, 1) := by decide +kernel
theorem dX8_comes_77 : decode cX8_comes 77 = .ok (.ior, 1) := by decide +kernel
theorem dX8_comes_78 : decode cX8_comes 78 = .ok (.iastore, 1) := by decide +kernel
theorem dX8_comes_79 : decode cX8_comes 79 = .ok (.aload_n 0, 1) := by decide +kernel
theorem dX8_comes_80 : decode cX8_comes 80 = .ok (.bipush 12, 2) := by decide +kernel
theorem dX8_comes_82 : decode cX8_comes 82 = .ok (.dup2, 1) := by decide +kernel
theorem dX8_comes_83 : decode cX8_comes 83 = .ok (.iaload, 1) := by decide +kernel
theorem dX8_comes_84 : decode cX8_comes 84 = .ok (.iconst 1, 1) := by decide +kernel
theorem dX8_comes_85 : decode cX8_comes 85 = .ok (.iload 4, 2) := by decide +kernel
theorem dX8_comes_87 : decode cX8_comes 87 = .ok (.ishl, 1) := by decide +kernel
theorem dX8_comes_88 : decode cX8_comes 88 = .ok (.iconst (-1), 1) := by decide +kernel
theorem dX8_comes_89 : decode cX8_comes 89 = .ok (.ixor, 1) := by decide +kernel
theorem dX8_comes_90 : decode cX8_comes 90 = .ok (.iand, 1) := by decide +kernel
theorem dX8_comes_91 : decode cX8_comes 91 = .ok (.iastore, 1) := by decide +kernel
theorem dX8_comes_92 : decode cX8_comes 92 = .ok (.aload_n 0, 1) := by decide +kernel
theorem dX8_comes_93 : decode cX8_comes 93 = .ok (.bipush 13, 2) := by decide +kernel
theorem dX8_comes_95 : decode cX8_comes 95 = .ok (.dup2, 1) := by decide +kernel
theorem dX8_comes_96 : decode cX8_comes 96 = .ok (.iaload, 1) := by decide +kernel
theorem dX8_comes_97 : decode cX8_comes 97 = .ok (.iconst 1, 1) := by decide +kernel
theorem dX8_comes_98 : decode cX8_comes 98 = .ok (.iload 4, 2) := by decide +kernel
theorem dX8_comes_100 : decode cX8_comes 100 = .ok (.ishl, 1) := by decide +kernel
theorem dX8_comes_101 : decode cX8_comes 101 = .ok (.iconst (-1), 1) := by decide +kernel
theorem dX8_comes_102 : decode cX8_comes 102 = .ok (.ixor, 1) := by decide +kernel
theorem dX8_comes_103 : decode cX8_comes 103 = .ok (.iand, 1) := by decide +kernel
theorem dX8_comes_104 : decode cX8_comes 104 = .ok (.iastore, 1) := by decide +kernel
theorem dX8_comes_105 : decode cX8_comes 105 = .ok (.aload_n 0, 1) := by decide +kernel
theorem dX8_comes_106 : decode cX8_comes 106 = .ok (.bipush 14, 2) := by decide +kernel
theorem dX8_comes_108 : decode cX8_comes 108 = .ok (.dup2, 1) := by decide +kernel
theorem dX8_comes_109 : decode cX8_comes 109 = .ok (.iaload, 1) := by decide +kernel
theorem dX8_comes_110 : decode cX8_comes 110 = .ok (.iconst 1, 1) := by decide +kernel
theorem dX8_comes_111 : decode cX8_comes 111 = .ok (.iload 4, 2) := by decide +kernel
theorem dX8_comes_113 : decode cX8_comes 113 = .ok (.ishl, 1) := by decide +kernel
theorem dX8_comes_114 : decode cX8_comes 114 = .ok (.iconst (-1), 1) := by decide +kernel
theorem dX8_comes_115 : decode cX8_comes 115 = .ok (.ixor, 1) := by decide +kernel
theorem dX8_comes_116 : decode cX8_comes 116 = .ok (.iand, 1) := by decide +kernel
theorem dX8_comes_117 : decode cX8_comes 117 = .ok (.iastore, 1) := by decide +kernel
theorem dX8_comes_118 : decode cX8_comes 118 = .ok (.aload_n 0, 1) := by decide +kernel
theorem dX8_comes_119 : decode cX8_comes 119 = .ok (.iconst 0, 1) := by decide +kernel
theorem dX8_comes_120 : decode cX8_comes 120 = .ok (.iload 4, 2) := by decide +kernel
theorem dX8_comes_122 : decode cX8_comes 122 = .ok (.iconst 1, 1) := by decide +kernel
theorem dX8_comes_123 : decode cX8_comes 123 = .ok (.iadd, 1) := by decide +kernel
theorem dX8_comes_124 : decode cX8_comes 124 = .ok (.iastore, 1) := by decide +kernel
theorem dX8_comes_125 : decode cX8_comes 125 = .ok (.aload_n 0, 1) := by decide +kernel
theorem dX8_comes_126 : decode cX8_comes 126 = .ok (.bipush 15, 2) := by decide +kernel
theorem dX8_comes_128 : decode cX8_comes 128 = .ok (.iconst 0, 1) := by decide +kernel
theorem dX8_comes_129 : decode cX8_comes 129 = .ok (.iastore, 1) := by decide +kernel
theorem dX8_comes_130 : decode cX8_comes 130 = .ok (.iload 4, 2) := by decide +kernel
theorem dX8_comes_132 : decode cX8_comes 132 = .ok (.ireturn, 1) := by decide +kernel
theorem dX8_manyOf_0 : decode cX8_manyOf 0 = .ok (.iload_n 0, 1) := by decide +kernel
theorem dX8_manyOf_1 : decode cX8_manyOf 1 = .ok (.ifCond .ne 7, 3) := by decide +kernel
theorem dX8_manyOf_4 : decode cX8_manyOf 4 = .ok (.iconst 0, 1) := by decide +kernel
theorem dX8_manyOf_5 : decode cX8_manyOf 5 = .ok (.goto 33, 3) := by decide +kernel
theorem dX8_manyOf_8 : decode cX8_manyOf 8 = .ok (.iload_n 0, 1) := by decide +kernel
theorem dX8_manyOf_9 : decode cX8_manyOf 9 = .ok (.iconst 1, 1) := by decide +kernel
theorem dX8_manyOf_10 : decode cX8_manyOf 10 = .ok (.if_icmp .eq 9, 3) := by decide +kernel
theorem dX8_manyOf_13 : decode cX8_manyOf 13 = .ok (.iload_n 0, 1) := by decide +kernel
theorem dX8_manyOf_14 : decode cX8_manyOf 14 = .ok (.bipush 6, 2) := by decide +kernel
theorem dX8_manyOf_16 : decode cX8_manyOf 16 = .ok (.if_icmp .ne 7, 3) := by decide +kernel
theorem dX8_manyOf_19 : decode cX8_manyOf 19 = .ok (.iconst 2, 1) := by decide +kernel
theorem dX8_manyOf_20 : decode cX8_manyOf 20 = .ok (.goto 18, 3) := by decide +kernel
theorem dX8_manyOf_23 : decode cX8_manyOf 23 = .ok (.iload_n 0, 1) := by decide +kernel
theorem dX8_manyOf_24 : decode cX8_manyOf 24 = .ok (.iconst 2, 1) := by decide +kernel
theorem dX8_manyOf_25 : decode cX8_manyOf 25 = .ok (.if_icmp .eq 8, 3) := by decide +kernel
theorem dX8_manyOf_28 : decode cX8_manyOf 28 = .ok (.iload_n 0, 1) := by decide +kernel
theorem dX8_manyOf_29 : decode cX8_manyOf 29 = .ok (.iconst 5, 1) := by decide +kernel
theorem dX8_manyOf_30 : decode cX8_manyOf 30 = .ok (.if_icmp .ne 7, 3) := by decide +kernel
theorem dX8_manyOf_33 : decode cX8_manyOf 33 = .ok (.iload_n 1, 1) := by decide +kernel
theorem dX8_manyOf_34 : decode cX8_manyOf 34 = .ok (.goto 4, 3) := by decide +kernel
theorem dX8_manyOf_37 : decode cX8_manyOf 37 = .ok (.iconst 1, 1) := by decide +kernel
theorem dX8_manyOf_38 : decode cX8_manyOf 38 = .ok (.ireturn, 1) := by decide +kernel
theorem dX8_cell_0 : decode cX8_cell 0 = .ok (.iload_n 1, 1) := by decide +kernel
theorem dX8_cell_1 : decode cX8_cell 1 = .ok (.i2l, 1) := by decide +kernel
theorem dX8_cell_2 : decode cX8_cell 2 = .ok (.lconst 0, 1) := by decide +kernel
theorem dX8_cell_3 : decode cX8_cell 3 = .ok (.ldc2_w 69, 3) := by decide +kernel
theorem dX8_cell_6 : decode cX8_cell 6 = .ok (.invokestatic 57, 3) := by decide +kernel
theorem dX8_cell_9 : decode cX8_cell 9 = .ok (.ifCond .ne 5, 3) := by decide +kernel
theorem dX8_cell_12 : decode cX8_cell 12 = .ok (.iconst (-1), 1) := by decide +kernel
theorem dX8_cell_13 : decode cX8_cell 13 = .ok (.ireturn, 1) := by decide +kernel
theorem dX8_cell_14 : decode cX8_cell 14 = .ok (.iload_n 2, 1) := by decide +kernel
theorem dX8_cell_15 : decode cX8_cell 15 = .ok (.i2l, 1) := by decide +kernel
theorem dX8_cell_16 : decode cX8_cell 16 = .ok (.lconst 0, 1) := by decide +kernel
theorem dX8_cell_17 : decode cX8_cell 17 = .ok (.ldc2_w 71, 3) := by decide +kernel
theorem dX8_cell_20 : decode cX8_cell 20 = .ok (.invokestatic 57, 3) := by decide +kernel
theorem dX8_cell_23 : decode cX8_cell 23 = .ok (.ifCond .eq 25, 3) := by decide +kernel
theorem dX8_cell_26 : decode cX8_cell 26 = .ok (.iload_n 1, 1) := by decide +kernel
theorem dX8_cell_27 : decode cX8_cell 27 = .ok (.iconst 2, 1) := by decide +kernel
theorem dX8_cell_28 : decode cX8_cell 28 = .ok (.if_icmp .eq 8, 3) := by decide +kernel
theorem dX8_cell_31 : decode cX8_cell 31 = .ok (.iload_n 1, 1) := by decide +kernel
theorem dX8_cell_32 : decode cX8_cell 32 = .ok (.iconst 5, 1) := by decide +kernel
theorem dX8_cell_33 : decode cX8_cell 33 = .ok (.if_icmp .ne 18, 3) := by decide +kernel
theorem dX8_cell_36 : decode cX8_cell 36 = .ok (.iload_n 3, 1) := by decide +kernel
theorem dX8_cell_37 : decode cX8_cell 37 = .ok (.i2l, 1) := by decide +kernel
theorem dX8_cell_38 : decode cX8_cell 38 = .ok (.lconst 0, 1) := by decide +kernel
theorem dX8_cell_39 : decode cX8_cell 39 = .ok (.ldc2_w 69, 3) := by decide +kernel
theorem dX8_cell_42 : decode cX8_cell 42 = .ok (.invokestatic 57, 3) := by decide +kernel
theorem dX8_cell_45 : decode cX8_cell 45 = .ok (.ifCond .ne 6, 3) := by decide +kernel
theorem dX8_cell_48 : decode cX8_cell 48 = .ok (.bipush (-2), 2) := by decide +kernel
theorem dX8_cell_50 : decode cX8_cell 50 = .ok (.ireturn, 1) := by decide +kernel
theorem dX8_cell_51 : decode cX8_cell 51 = .ok (.aload_n 0, 1) := by decide +kernel
theorem dX8_cell_52 : decode cX8_cell 52 = .ok (.getfield 11, 3) := by decide +kernel
theorem dX8_cell_55 : decode cX8_cell 55 = .ok (.iconst 2, 1) := by decide +kernel
theorem dX8_cell_56 : decode cX8_cell 56 = .ok (.iaload, 1) := by decide +kernel
theorem dX8_cell_57 : decode cX8_cell 57 = .ok (.iconst 1, 1) := by decide +kernel
theorem dX8_cell_58 : decode cX8_cell 58 = .ok (.if_icmp .ne 6, 3) := by decide +kernel
theorem dX8_cell_61 : decode cX8_cell 61 = .ok (.bipush (-3), 2) := by decide +kernel
theorem dX8_cell_63 : decode cX8_cell 63 = .ok (.ireturn, 1) := by decide +kernel
theorem dX8_cell_64 : decode cX8_cell 64 = .ok (.aload_n 0, 1) := by decide +kernel
theorem dX8_cell_65 : decode cX8_cell 65 = .ok (.getfield 11, 3) := by decide +kernel
theorem dX8_cell_68 : decode cX8_cell 68 = .ok (.iconst 0, 1) := by decide +kernel
theorem dX8_cell_69 : decode cX8_cell 69 = .ok (.iaload, 1) := by decide +kernel
theorem dX8_cell_70 : decode cX8_cell 70 = .ok (.bipush 24, 2) := by decide +kernel
theorem dX8_cell_72 : decode cX8_cell 72 = .ok (.if_icmp .ne 8, 3) := by decide +kernel
theorem dX8_cell_75 : decode cX8_cell 75 = .ok (.bipush (-4), 2) := by decide +kernel
theorem dX8_cell_77 : decode cX8_cell 77 = .ok (.goto 17, 3) := by decide +kernel
theorem dX8_cell_80 : decode cX8_cell 80 = .ok (.aload_n 0, 1) := by decide +kernel
theorem dX8_cell_81 : decode cX8_cell 81 = .ok (.getfield 11, 3) := by decide +kernel
theorem dX8_cell_84 : decode cX8_cell 84 = .ok (.iload_n 1, 1) := by decide +kernel
theorem dX8_cell_85 : decode cX8_cell 85 = .ok (.iload_n 2, 1) := by decide +kernel
theorem dX8_cell_86 : decode cX8_cell 86 = .ok (.iload_n 1, 1) := by decide +kernel
theorem dX8_cell_87 : decode cX8_cell 87 = .ok (.iload_n 3, 1) := by decide +kernel
theorem dX8_cell_88 : decode cX8_cell 88 = .ok (.invokestatic 73, 3) := by decide +kernel
theorem dX8_cell_91 : decode cX8_cell 91 = .ok (.invokestatic 77, 3) := by decide +kernel
theorem dX8_cell_94 : decode cX8_cell 94 = .ok (.ireturn, 1) := by decide +kernel
theorem dX8_isFollowed_0 : decode cX8_isFollowed 0 = .ok (.aload_n 0, 1) := by decide +kernel
theorem dX8_isFollowed_1 : decode cX8_isFollowed 1 = .ok (.bipush 20, 2) := by decide +kernel
theorem dX8_isFollowed_3 : decode cX8_isFollowed 3 = .ok (.iload_n 1, 1) := by decide +kernel
theorem dX8_isFollowed_4 : decode cX8_isFollowed 4 = .ok (.iadd, 1) := by decide +kernel
theorem dX8_isFollowed_5 : decode cX8_isFollowed 5 = .ok (.iaload, 1) := by decide +kernel
theorem dX8_isFollowed_6 : decode cX8_isFollowed 6 = .ok (.istore_n 3, 1) := by decide +kernel
theorem dX8_isFollowed_7 : decode cX8_isFollowed 7 = .ok (.iload_n 3, 1) := by decide +kernel
theorem dX8_isFollowed_8 : decode cX8_isFollowed 8 = .ok (.iconst 4, 1) := by decide +kernel
theorem dX8_isFollowed_9 : decode cX8_isFollowed 9 = .ok (.if_icmp .eq 41, 3) := by decide +kernel
theorem dX8_isFollowed_12 : decode cX8_isFollowed 12 = .ok (.iload_n 3, 1) := by decide +kernel
theorem dX8_isFollowed_13 : decode cX8_isFollowed 13 = .ok (.iconst 5, 1) := by decide +kernel
theorem dX8_isFollowed_14 : decode cX8_isFollowed 14 = .ok (.if_icmp .ne 10, 3) := by decide +kernel
theorem dX8_isFollowed_17 : decode cX8_isFollowed 17 = .ok (.iload_n 2, 1) := by decide +kernel
theorem dX8_isFollowed_18 : decode cX8_isFollowed 18 = .ok (.iconst 2, 1) := by decide +kernel
theorem dX8_isFollowed_19 : decode cX8_isFollowed 19 = .ok (.irem, 1) := by decide +kernel
theorem dX8_isFollowed_20 : decode cX8_isFollowed 20 = .ok (.iconst 1, 1) := by decide +kernel
theorem dX8_isFollowed_21 : decode cX8_isFollowed 21 = .ok (.if_icmp .ne 29, 3) := by decide +kernel
theorem dX8_isFollowed_24 : decode cX8_isFollowed 24 = .ok (.iload_n 3, 1) := by decide +kernel
theorem dX8_isFollowed_25 : decode cX8_isFollowed 25 = .ok (.bipush 6, 2) := by decide +kernel
theorem dX8_isFollowed_27 : decode cX8_isFollowed 27 = .ok (.if_icmp .ne 19, 3) := by decide +kernel
theorem dX8_isFollowed_30 : decode cX8_isFollowed 30 = .ok (.iload_n 2, 1) := by decide +kernel
theorem dX8_isFollowed_31 : decode cX8_isFollowed 31 = .ok (.ifCond .eq 15, 3) := by decide +kernel
theorem dX8_isFollowed_34 : decode cX8_isFollowed 34 = .ok (.aload_n 0, 1) := by decide +kernel
theorem dX8_isFollowed_35 : decode cX8_isFollowed 35 = .ok (.bipush 44, 2) := by decide +kernel
theorem dX8_isFollowed_37 : decode cX8_isFollowed 37 = .ok (.iload_n 1, 1) := by decide +kernel
theorem dX8_isFollowed_38 : decode cX8_isFollowed 38 = .ok (.iadd, 1) := by decide +kernel
theorem dX8_isFollowed_39 : decode cX8_isFollowed 39 = .ok (.iaload, 1) := by decide +kernel
theorem dX8_isFollowed_40 : decode cX8_isFollowed 40 = .ok (.iconst 2, 1) := by decide +kernel
theorem dX8_isFollowed_41 : decode cX8_isFollowed 41 = .ok (.irem, 1) := by decide +kernel
theorem dX8_isFollowed_42 : decode cX8_isFollowed 42 = .ok (.iconst 1, 1) := by decide +kernel
theorem dX8_isFollowed_43 : decode cX8_isFollowed 43 = .ok (.if_icmp .ne 7, 3) := by decide +kernel
theorem dX8_isFollowed_46 : decode cX8_isFollowed 46 = .ok (.iconst 1, 1) := by decide +kernel
theorem dX8_isFollowed_47 : decode cX8_isFollowed 47 = .ok (.goto 4, 3) := by decide +kernel
theorem dX8_isFollowed_50 : decode cX8_isFollowed 50 = .ok (.iconst 0, 1) := by decide +kernel
theorem dX8_isFollowed_51 : decode cX8_isFollowed 51 = .ok (.ireturn, 1) := by decide +kernel
theorem dX8_leads_0 : decode cX8_leads 0 = .ok (.aload_n 0, 1) := by decide +kernel
theorem dX8_leads_1 : decode cX8_leads 1 = .ok (.iload_n 1, 1) := by decide +kernel
theorem dX8_leads_2 : decode cX8_leads 2 = .ok (.iload_n 2, 1) := by decide +kernel
theorem dX8_leads_3 : decode cX8_leads 3 = .ok (.invokestatic 81, 3) := by decide +kernel
theorem dX8_leads_6 : decode cX8_leads 6 = .ok (.ifCond .eq 18, 3) := by decide +kernel
theorem dX8_leads_9 : decode cX8_leads 9 = .ok (.aload_n 0, 1) := by decide +kernel
theorem dX8_leads_10 : decode cX8_leads 10 = .ok (.sipush 140, 3) := by decide +kernel
theorem dX8_leads_13 : decode cX8_leads 13 = .ok (.bipush 6, 2) := by decide +kernel
theorem dX8_leads_15 : decode cX8_leads 15 = .ok (.iload_n 1, 1) := by decide +kernel
theorem dX8_leads_16 : decode cX8_leads 16 = .ok (.imul, 1) := by decide +kernel
theorem dX8_leads_17 : decode cX8_leads 17 = .ok (.iadd, 1) := by decide +kernel
theorem dX8_leads_18 : decode cX8_leads 18 = .ok (.iload_n 2, 1) := by decide +kernel
theorem dX8_leads_19 : decode cX8_leads 19 = .ok (.iadd, 1) := by decide +kernel
theorem dX8_leads_20 : decode cX8_leads 20 = .ok (.iaload, 1) := by decide +kernel
theorem dX8_leads_21 : decode cX8_leads 21 = .ok (.goto 5, 3) := by decide +kernel
theorem dX8_leads_24 : decode cX8_leads 24 = .ok (.bipush (-5), 2) := by decide +kernel
theorem dX8_leads_26 : decode cX8_leads 26 = .ok (.ireturn, 1) := by decide +kernel
theorem dX8_reach_0 : decode cX8_reach 0 = .ok (.iload_n 2, 1) := by decide +kernel
theorem dX8_reach_1 : decode cX8_reach 1 = .ok (.bipush 24, 2) := by decide +kernel
theorem dX8_reach_3 : decode cX8_reach 3 = .ok (.if_icmp .ge 13, 3) := by decide +kernel
theorem dX8_reach_6 : decode cX8_reach 6 = .ok (.iload_n 1, 1) := by decide +kernel
theorem dX8_reach_7 : decode cX8_reach 7 = .ok (.iconst 1, 1) := by decide +kernel
theorem dX8_reach_8 : decode cX8_reach 8 = .ok (.iload_n 2, 1) := by decide +kernel
theorem dX8_reach_9 : decode cX8_reach 9 = .ok (.ishl, 1) := by decide +kernel
theorem dX8_reach_10 : decode cX8_reach 10 = .ok (.iconst (-1), 1) := by decide +kernel
theorem dX8_reach_11 : decode cX8_reach 11 = .ok (.ixor, 1) := by decide +kernel
theorem dX8_reach_12 : decode cX8_reach 12 = .ok (.iand, 1) := by decide +kernel
theorem dX8_reach_13 : decode cX8_reach 13 = .ok (.goto 4, 3) := by decide +kernel
theorem dX8_reach_16 : decode cX8_reach 16 = .ok (.iload_n 1, 1) := by decide +kernel
theorem dX8_reach_17 : decode cX8_reach 17 = .ok (.istore_n 3, 1) := by decide +kernel
theorem dX8_reach_18 : decode cX8_reach 18 = .ok (.iconst 1, 1) := by decide +kernel
theorem dX8_reach_19 : decode cX8_reach 19 = .ok (.istore 4, 2) := by decide +kernel
theorem dX8_reach_21 : decode cX8_reach 21 = .ok (.iload 4, 2) := by decide +kernel
theorem dX8_reach_23 : decode cX8_reach 23 = .ok (.ifCond .eq 97, 3) := by decide +kernel
theorem dX8_reach_26 : decode cX8_reach 26 = .ok (.iload_n 3, 1) := by decide +kernel
theorem dX8_reach_27 : decode cX8_reach 27 = .ok (.istore 5, 2) := by decide +kernel
theorem dX8_reach_29 : decode cX8_reach 29 = .ok (.iconst 0, 1) := by decide +kernel
theorem dX8_reach_30 : decode cX8_reach 30 = .ok (.istore 6, 2) := by decide +kernel
theorem dX8_reach_32 : decode cX8_reach 32 = .ok (.iload 6, 2) := by decide +kernel
theorem dX8_reach_34 : decode cX8_reach 34 = .ok (.bipush 24, 2) := by decide +kernel
theorem dX8_reach_36 : decode cX8_reach 36 = .ok (.if_icmp .ge 68, 3) := by decide +kernel
theorem dX8_reach_39 : decode cX8_reach 39 = .ok (.iconst 0, 1) := by decide +kernel
theorem dX8_reach_40 : decode cX8_reach 40 = .ok (.istore 7, 2) := by decide +kernel
theorem dX8_reach_42 : decode cX8_reach 42 = .ok (.iload 5, 2) := by decide +kernel
theorem dX8_reach_44 : decode cX8_reach 44 = .ok (.iload 6, 2) := by decide +kernel
theorem dX8_reach_46 : decode cX8_reach 46 = .ok (.invokestatic 61, 3) := by decide +kernel
theorem dX8_reach_49 : decode cX8_reach 49 = .ok (.ifCond .eq 49, 3) := by decide +kernel
theorem dX8_reach_52 : decode cX8_reach 52 = .ok (.iload 7, 2) := by decide +kernel
theorem dX8_reach_54 : decode cX8_reach 54 = .ok (.aload_n 0, 1) := by decide +kernel
theorem dX8_reach_55 : decode cX8_reach 55 = .ok (.bipush 68, 2) := by decide +kernel
theorem dX8_reach_57 : decode cX8_reach 57 = .ok (.iload 6, 2) := by decide +kernel
theorem dX8_reach_59 : decode cX8_reach 59 = .ok (.iadd, 1) := by decide +kernel
theorem dX8_reach_60 : decode cX8_reach 60 = .ok (.iaload, 1) := by decide +kernel
theorem dX8_reach_61 : decode cX8_reach 61 = .ok (.if_icmp .ge 37, 3) := by decide +kernel
theorem dX8_reach_64 : decode cX8_reach 64 = .ok (.aload_n 0, 1) := by decide +kernel
theorem dX8_reach_65 : decode cX8_reach 65 = .ok (.iload 6, 2) := by decide +kernel
theorem dX8_reach_67 : decode cX8_reach 67 = .ok (.iload 7, 2) := by decide +kernel
theorem dX8_reach_69 : decode cX8_reach 69 = .ok (.invokestatic 85, 3) := by decide +kernel
theorem dX8_reach_72 : decode cX8_reach 72 = .ok (.istore 8, 2) := by decide +kernel
theorem dX8_reach_74 : decode cX8_reach 74 = .ok (.iload 8, 2) := by decide +kernel
theorem dX8_reach_76 : decode cX8_reach 76 = .ok (.ifCond .lt 16, 3) := by decide +kernel
theorem dX8_reach_79 : decode cX8_reach 79 = .ok (.iload 8, 2) := by decide +kernel
theorem dX8_reach_81 : decode cX8_reach 81 = .ok (.iload_n 2, 1) := by decide +kernel
theorem dX8_reach_82 : decode cX8_reach 82 = .ok (.if_icmp .eq 10, 3) := by decide +kernel
theorem dX8_reach_85 : decode cX8_reach 85 = .ok (.iload_n 3, 1) := by decide +kernel
theorem dX8_reach_86 : decode cX8_reach 86 = .ok (.iconst 1, 1) := by decide +kernel
theorem dX8_reach_87 : decode cX8_reach 87 = .ok (.iload 8, 2) := by decide +kernel
theorem dX8_reach_89 : decode cX8_reach 89 = .ok (.ishl, 1) := by decide +kernel
theorem dX8_reach_90 : decode cX8_reach 90 = .ok (.ior, 1) := by decide +kernel
theorem dX8_reach_91 : decode cX8_reach 91 = .ok (.istore_n 3, 1) := by decide +kernel
theorem dX8_reach_92 : decode cX8_reach 92 = .ok (.iinc 7 1, 3) := by decide +kernel
theorem dX8_reach_95 : decode cX8_reach 95 = .ok (.goto (-53), 3) := by decide +kernel
theorem dX8_reach_98 : decode cX8_reach 98 = .ok (.iinc 6 1, 3) := by decide +kernel
theorem dX8_reach_101 : decode cX8_reach 101 = .ok (.goto (-69), 3) := by decide +kernel
theorem dX8_reach_104 : decode cX8_reach 104 = .ok (.iload_n 3, 1) := by decide +kernel
theorem dX8_reach_105 : decode cX8_reach 105 = .ok (.iload 5, 2) := by decide +kernel
theorem dX8_reach_107 : decode cX8_reach 107 = .ok (.if_icmp .eq 7, 3) := by decide +kernel
theorem dX8_reach_110 : decode cX8_reach 110 = .ok (.iconst 1, 1) := by decide +kernel
theorem dX8_reach_111 : decode cX8_reach 111 = .ok (.goto 4, 3) := by decide +kernel
theorem dX8_reach_114 : decode cX8_reach 114 = .ok (.iconst 0, 1) := by decide +kernel
theorem dX8_reach_115 : decode cX8_reach 115 = .ok (.istore 4, 2) := by decide +kernel
theorem dX8_reach_117 : decode cX8_reach 117 = .ok (.goto (-96), 3) := by decide +kernel
theorem dX8_reach_120 : decode cX8_reach 120 = .ok (.iload_n 3, 1) := by decide +kernel
theorem dX8_reach_121 : decode cX8_reach 121 = .ok (.ireturn, 1) := by decide +kernel
theorem dX8_rooted_0 : decode cX8_rooted 0 = .ok (.iconst 0, 1) := by decide +kernel
theorem dX8_rooted_1 : decode cX8_rooted 1 = .ok (.istore_n 1, 1) := by decide +kernel
theorem dX8_rooted_2 : decode cX8_rooted 2 = .ok (.iconst 0, 1) := by decide +kernel
theorem dX8_rooted_3 : decode cX8_rooted 3 = .ok (.istore_n 2, 1) := by decide +kernel
theorem dX8_rooted_4 : decode cX8_rooted 4 = .ok (.iload_n 2, 1) := by decide +kernel
theorem dX8_rooted_5 : decode cX8_rooted 5 = .ok (.iconst 4, 1) := by decide +kernel
theorem dX8_rooted_6 : decode cX8_rooted 6 = .ok (.if_icmp .ge 33, 3) := by decide +kernel
theorem dX8_rooted_9 : decode cX8_rooted 9 = .ok (.iload_n 1, 1) := by decide +kernel
theorem dX8_rooted_10 : decode cX8_rooted 10 = .ok (.aload_n 0, 1) := by decide +kernel
theorem dX8_rooted_11 : decode cX8_rooted 11 = .ok (.bipush 16, 2) := by decide +kernel
theorem dX8_rooted_13 : decode cX8_rooted 13 = .ok (.iload_n 2, 1) := by decide +kernel
theorem dX8_rooted_14 : decode cX8_rooted 14 = .ok (.iadd, 1) := by decide +kernel
theorem dX8_rooted_15 : decode cX8_rooted 15 = .ok (.iaload, 1) := by decide +kernel
theorem dX8_rooted_16 : decode cX8_rooted 16 = .ok (.ifCond .lt 14, 3) := by decide +kernel
theorem dX8_rooted_19 : decode cX8_rooted 19 = .ok (.iconst 1, 1) := by decide +kernel
theorem dX8_rooted_20 : decode cX8_rooted 20 = .ok (.aload_n 0, 1) := by decide +kernel
theorem dX8_rooted_21 : decode cX8_rooted 21 = .ok (.bipush 16, 2) := by decide +kernel
theorem dX8_rooted_23 : decode cX8_rooted 23 = .ok (.iload_n 2, 1) := by decide +kernel
theorem dX8_rooted_24 : decode cX8_rooted 24 = .ok (.iadd, 1) := by decide +kernel
theorem dX8_rooted_25 : decode cX8_rooted 25 = .ok (.iaload, 1) := by decide +kernel
theorem dX8_rooted_26 : decode cX8_rooted 26 = .ok (.ishl, 1) := by decide +kernel
theorem dX8_rooted_27 : decode cX8_rooted 27 = .ok (.goto 4, 3) := by decide +kernel
theorem dX8_rooted_30 : decode cX8_rooted 30 = .ok (.iconst 0, 1) := by decide +kernel
theorem dX8_rooted_31 : decode cX8_rooted 31 = .ok (.ior, 1) := by decide +kernel
theorem dX8_rooted_32 : decode cX8_rooted 32 = .ok (.istore_n 1, 1) := by decide +kernel
theorem dX8_rooted_33 : decode cX8_rooted 33 = .ok (.iinc 2 1, 3) := by decide +kernel
theorem dX8_rooted_36 : decode cX8_rooted 36 = .ok (.goto (-32), 3) := by decide +kernel
theorem dX8_rooted_39 : decode cX8_rooted 39 = .ok (.iload_n 1, 1) := by decide +kernel
theorem dX8_rooted_40 : decode cX8_rooted 40 = .ok (.ireturn, 1) := by decide +kernel
theorem dX8_reached_0 : decode cX8_reached 0 = .ok (.aload_n 0, 1) := by decide +kernel
theorem dX8_reached_1 : decode cX8_reached 1 = .ok (.aload_n 0, 1) := by decide +kernel
theorem dX8_reached_2 : decode cX8_reached 2 = .ok (.invokestatic 89, 3) := by decide +kernel
theorem dX8_reached_5 : decode cX8_reached 5 = .ok (.bipush 24, 2) := by decide +kernel
theorem dX8_reached_7 : decode cX8_reached 7 = .ok (.invokestatic 93, 3) := by decide +kernel
theorem dX8_reached_10 : decode cX8_reached 10 = .ok (.ireturn, 1) := by decide +kernel
theorem dX8_far_0 : decode cX8_far 0 = .ok (.aload_n 0, 1) := by decide +kernel
theorem dX8_far_1 : decode cX8_far 1 = .ok (.invokestatic 89, 3) := by decide +kernel
theorem dX8_far_4 : decode cX8_far 4 = .ok (.istore_n 2, 1) := by decide +kernel
theorem dX8_far_5 : decode cX8_far 5 = .ok (.iconst 0, 1) := by decide +kernel
theorem dX8_far_6 : decode cX8_far 6 = .ok (.istore_n 3, 1) := by decide +kernel
theorem dX8_far_7 : decode cX8_far 7 = .ok (.iload_n 3, 1) := by decide +kernel
theorem dX8_far_8 : decode cX8_far 8 = .ok (.bipush 25, 2) := by decide +kernel
theorem dX8_far_10 : decode cX8_far 10 = .ok (.if_icmp .ge 95, 3) := by decide +kernel
theorem dX8_far_13 : decode cX8_far 13 = .ok (.iload_n 2, 1) := by decide +kernel
theorem dX8_far_14 : decode cX8_far 14 = .ok (.iload_n 1, 1) := by decide +kernel
theorem dX8_far_15 : decode cX8_far 15 = .ok (.invokestatic 61, 3) := by decide +kernel
theorem dX8_far_18 : decode cX8_far 18 = .ok (.ifCond .eq 5, 3) := by decide +kernel
theorem dX8_far_21 : decode cX8_far 21 = .ok (.iload_n 3, 1) := by decide +kernel
theorem dX8_far_22 : decode cX8_far 22 = .ok (.ireturn, 1) := by decide +kernel
theorem dX8_far_23 : decode cX8_far 23 = .ok (.iload_n 2, 1) := by decide +kernel
theorem dX8_far_24 : decode cX8_far 24 = .ok (.istore 4, 2) := by decide +kernel
theorem dX8_far_26 : decode cX8_far 26 = .ok (.iconst 0, 1) := by decide +kernel
theorem dX8_far_27 : decode cX8_far 27 = .ok (.istore 5, 2) := by decide +kernel
theorem dX8_far_29 : decode cX8_far 29 = .ok (.iload 5, 2) := by decide +kernel
theorem dX8_far_31 : decode cX8_far 31 = .ok (.bipush 24, 2) := by decide +kernel
theorem dX8_far_33 : decode cX8_far 33 = .ok (.if_icmp .ge 66, 3) := by decide +kernel
theorem dX8_far_36 : decode cX8_far 36 = .ok (.iconst 0, 1) := by decide +kernel
theorem dX8_far_37 : decode cX8_far 37 = .ok (.istore 6, 2) := by decide +kernel
theorem dX8_far_39 : decode cX8_far 39 = .ok (.iload 4, 2) := by decide +kernel
theorem dX8_far_41 : decode cX8_far 41 = .ok (.iload 5, 2) := by decide +kernel
theorem dX8_far_43 : decode cX8_far 43 = .ok (.invokestatic 61, 3) := by decide +kernel
theorem dX8_far_46 : decode cX8_far 46 = .ok (.ifCond .eq 47, 3) := by decide +kernel
theorem dX8_far_49 : decode cX8_far 49 = .ok (.iload 6, 2) := by decide +kernel
theorem dX8_far_51 : decode cX8_far 51 = .ok (.aload_n 0, 1) := by decide +kernel
theorem dX8_far_52 : decode cX8_far 52 = .ok (.bipush 68, 2) := by decide +kernel
theorem dX8_far_54 : decode cX8_far 54 = .ok (.iload 5, 2) := by decide +kernel
theorem dX8_far_56 : decode cX8_far 56 = .ok (.iadd, 1) := by decide +kernel
theorem dX8_far_57 : decode cX8_far 57 = .ok (.iaload, 1) := by decide +kernel
theorem dX8_far_58 : decode cX8_far 58 = .ok (.if_icmp .ge 35, 3) := by decide +kernel
theorem dX8_far_61 : decode cX8_far 61 = .ok (.aload_n 0, 1) := by decide +kernel
theorem dX8_far_62 : decode cX8_far 62 = .ok (.iload 5, 2) := by decide +kernel
theorem dX8_far_64 : decode cX8_far 64 = .ok (.iload 6, 2) := by decide +kernel
theorem dX8_far_66 : decode cX8_far 66 = .ok (.invokestatic 85, 3) := by decide +kernel
theorem dX8_far_69 : decode cX8_far 69 = .ok (.istore 7, 2) := by decide +kernel
theorem dX8_far_71 : decode cX8_far 71 = .ok (.iload_n 2, 1) := by decide +kernel
theorem dX8_far_72 : decode cX8_far 72 = .ok (.iload 7, 2) := by decide +kernel
theorem dX8_far_74 : decode cX8_far 74 = .ok (.ifCond .lt 10, 3) := by decide +kernel
theorem dX8_far_77 : decode cX8_far 77 = .ok (.iconst 1, 1) := by decide +kernel
theorem dX8_far_78 : decode cX8_far 78 = .ok (.iload 7, 2) := by decide +kernel
theorem dX8_far_80 : decode cX8_far 80 = .ok (.ishl, 1) := by decide +kernel
theorem dX8_far_81 : decode cX8_far 81 = .ok (.goto 4, 3) := by decide +kernel
theorem dX8_far_84 : decode cX8_far 84 = .ok (.iconst 0, 1) := by decide +kernel
theorem dX8_far_85 : decode cX8_far 85 = .ok (.ior, 1) := by decide +kernel
theorem dX8_far_86 : decode cX8_far 86 = .ok (.istore_n 2, 1) := by decide +kernel
theorem dX8_far_87 : decode cX8_far 87 = .ok (.iinc 6 1, 3) := by decide +kernel
theorem dX8_far_90 : decode cX8_far 90 = .ok (.goto (-51), 3) := by decide +kernel
theorem dX8_far_93 : decode cX8_far 93 = .ok (.iinc 5 1, 3) := by decide +kernel
theorem dX8_far_96 : decode cX8_far 96 = .ok (.goto (-67), 3) := by decide +kernel
theorem dX8_far_99 : decode cX8_far 99 = .ok (.iinc 3 1, 3) := by decide +kernel
theorem dX8_far_102 : decode cX8_far 102 = .ok (.goto (-95), 3) := by decide +kernel
theorem dX8_far_105 : decode cX8_far 105 = .ok (.bipush (-5), 2) := by decide +kernel
theorem dX8_far_107 : decode cX8_far 107 = .ok (.ireturn, 1) := by decide +kernel
theorem dX8_holders_0 : decode cX8_holders 0 = .ok (.iconst 0, 1) := by decide +kernel
theorem dX8_holders_1 : decode cX8_holders 1 = .ok (.istore_n 2, 1) := by decide +kernel
theorem dX8_holders_2 : decode cX8_holders 2 = .ok (.iconst 0, 1) := by decide +kernel
theorem dX8_holders_3 : decode cX8_holders 3 = .ok (.istore_n 3, 1) := by decide +kernel
theorem dX8_holders_4 : decode cX8_holders 4 = .ok (.iload_n 3, 1) := by decide +kernel
theorem dX8_holders_5 : decode cX8_holders 5 = .ok (.bipush 24, 2) := by decide +kernel
theorem dX8_holders_7 : decode cX8_holders 7 = .ok (.if_icmp .ge 56, 3) := by decide +kernel
theorem dX8_holders_10 : decode cX8_holders 10 = .ok (.iconst 0, 1) := by decide +kernel
theorem dX8_holders_11 : decode cX8_holders 11 = .ok (.istore 4, 2) := by decide +kernel
theorem dX8_holders_13 : decode cX8_holders 13 = .ok (.aload_n 0, 1) := by decide +kernel
theorem dX8_holders_14 : decode cX8_holders 14 = .ok (.iload_n 3, 1) := by decide +kernel
theorem dX8_holders_15 : decode cX8_holders 15 = .ok (.iload 4, 2) := by decide +kernel
theorem dX8_holders_17 : decode cX8_holders 17 = .ok (.invokevirtual 96, 3) := by decide +kernel
theorem dX8_holders_20 : decode cX8_holders 20 = .ok (.ifCond .eq 37, 3) := by decide +kernel
theorem dX8_holders_23 : decode cX8_holders 23 = .ok (.iload_n 2, 1) := by decide +kernel
theorem dX8_holders_24 : decode cX8_holders 24 = .ok (.aload_n 0, 1) := by decide +kernel
theorem dX8_holders_25 : decode cX8_holders 25 = .ok (.getfield 11, 3) := by decide +kernel
theorem dX8_holders_28 : decode cX8_holders 28 = .ok (.sipush 140, 3) := by decide +kernel
theorem dX8_holders_31 : decode cX8_holders 31 = .ok (.bipush 6, 2) := by decide +kernel
theorem dX8_holders_33 : decode cX8_holders 33 = .ok (.iload_n 3, 1) := by decide +kernel
theorem dX8_holders_34 : decode cX8_holders 34 = .ok (.imul, 1) := by decide +kernel
theorem dX8_holders_35 : decode cX8_holders 35 = .ok (.iadd, 1) := by decide +kernel
theorem dX8_holders_36 : decode cX8_holders 36 = .ok (.iload 4, 2) := by decide +kernel
theorem dX8_holders_38 : decode cX8_holders 38 = .ok (.iadd, 1) := by decide +kernel
theorem dX8_holders_39 : decode cX8_holders 39 = .ok (.iaload, 1) := by decide +kernel
theorem dX8_holders_40 : decode cX8_holders 40 = .ok (.iload_n 1, 1) := by decide +kernel
theorem dX8_holders_41 : decode cX8_holders 41 = .ok (.if_icmp .ne 7, 3) := by decide +kernel
theorem dX8_holders_44 : decode cX8_holders 44 = .ok (.iconst 1, 1) := by decide +kernel
theorem dX8_holders_45 : decode cX8_holders 45 = .ok (.goto 4, 3) := by decide +kernel
theorem dX8_holders_48 : decode cX8_holders 48 = .ok (.iconst 0, 1) := by decide +kernel
theorem dX8_holders_49 : decode cX8_holders 49 = .ok (.iadd, 1) := by decide +kernel
theorem dX8_holders_50 : decode cX8_holders 50 = .ok (.istore_n 2, 1) := by decide +kernel
theorem dX8_holders_51 : decode cX8_holders 51 = .ok (.iinc 4 1, 3) := by decide +kernel
theorem dX8_holders_54 : decode cX8_holders 54 = .ok (.goto (-41), 3) := by decide +kernel
theorem dX8_holders_57 : decode cX8_holders 57 = .ok (.iinc 3 1, 3) := by decide +kernel
theorem dX8_holders_60 : decode cX8_holders 60 = .ok (.goto (-56), 3) := by decide +kernel
theorem dX8_holders_63 : decode cX8_holders 63 = .ok (.iload_n 2, 1) := by decide +kernel
theorem dX8_holders_64 : decode cX8_holders 64 = .ok (.ireturn, 1) := by decide +kernel
theorem dX8_isReachedCut_0 : decode cX8_isReachedCut 0 = .ok (.aload_n 0, 1) := by decide +kernel
theorem dX8_isReachedCut_1 : decode cX8_isReachedCut 1 = .ok (.getfield 11, 3) := by decide +kernel
theorem dX8_isReachedCut_4 : decode cX8_isReachedCut 4 = .ok (.sipush 140, 3) := by decide +kernel
theorem dX8_isReachedCut_7 : decode cX8_isReachedCut 7 = .ok (.bipush 6, 2) := by decide +kernel
theorem dX8_isReachedCut_9 : decode cX8_isReachedCut 9 = .ok (.iload_n 1, 1) := by decide +kernel
theorem dX8_isReachedCut_10 : decode cX8_isReachedCut 10 = .ok (.imul, 1) := by decide +kernel
theorem dX8_isReachedCut_11 : decode cX8_isReachedCut 11 = .ok (.iadd, 1) := by decide +kernel
theorem dX8_isReachedCut_12 : decode cX8_isReachedCut 12 = .ok (.iload_n 2, 1) := by decide +kernel
theorem dX8_isReachedCut_13 : decode cX8_isReachedCut 13 = .ok (.iadd, 1) := by decide +kernel
theorem dX8_isReachedCut_14 : decode cX8_isReachedCut 14 = .ok (.iaload, 1) := by decide +kernel
theorem dX8_isReachedCut_15 : decode cX8_isReachedCut 15 = .ok (.istore 4, 2) := by decide +kernel
theorem dX8_isReachedCut_17 : decode cX8_isReachedCut 17 = .ok (.aload_n 0, 1) := by decide +kernel
theorem dX8_isReachedCut_18 : decode cX8_isReachedCut 18 = .ok (.getfield 11, 3) := by decide +kernel
theorem dX8_isReachedCut_21 : decode cX8_isReachedCut 21 = .ok (.sipush 140, 3) := by decide +kernel
theorem dX8_isReachedCut_24 : decode cX8_isReachedCut 24 = .ok (.bipush 6, 2) := by decide +kernel
theorem dX8_isReachedCut_26 : decode cX8_isReachedCut 26 = .ok (.iload_n 1, 1) := by decide +kernel
theorem dX8_isReachedCut_27 : decode cX8_isReachedCut 27 = .ok (.imul, 1) := by decide +kernel
theorem dX8_isReachedCut_28 : decode cX8_isReachedCut 28 = .ok (.iadd, 1) := by decide +kernel
theorem dX8_isReachedCut_29 : decode cX8_isReachedCut 29 = .ok (.iload_n 2, 1) := by decide +kernel
theorem dX8_isReachedCut_30 : decode cX8_isReachedCut 30 = .ok (.iadd, 1) := by decide +kernel
theorem dX8_isReachedCut_31 : decode cX8_isReachedCut 31 = .ok (.bipush (-5), 2) := by decide +kernel
theorem dX8_isReachedCut_33 : decode cX8_isReachedCut 33 = .ok (.iastore, 1) := by decide +kernel
theorem dX8_isReachedCut_34 : decode cX8_isReachedCut 34 = .ok (.aload_n 0, 1) := by decide +kernel
theorem dX8_isReachedCut_35 : decode cX8_isReachedCut 35 = .ok (.getfield 11, 3) := by decide +kernel
theorem dX8_isReachedCut_38 : decode cX8_isReachedCut 38 = .ok (.invokestatic 99, 3) := by decide +kernel
theorem dX8_isReachedCut_41 : decode cX8_isReachedCut 41 = .ok (.iload_n 3, 1) := by decide +kernel
theorem dX8_isReachedCut_42 : decode cX8_isReachedCut 42 = .ok (.invokestatic 61, 3) := by decide +kernel
theorem dX8_isReachedCut_45 : decode cX8_isReachedCut 45 = .ok (.istore 5, 2) := by decide +kernel
theorem dX8_isReachedCut_47 : decode cX8_isReachedCut 47 = .ok (.aload_n 0, 1) := by decide +kernel
theorem dX8_isReachedCut_48 : decode cX8_isReachedCut 48 = .ok (.getfield 11, 3) := by decide +kernel
theorem dX8_isReachedCut_51 : decode cX8_isReachedCut 51 = .ok (.sipush 140, 3) := by decide +kernel
theorem dX8_isReachedCut_54 : decode cX8_isReachedCut 54 = .ok (.bipush 6, 2) := by decide +kernel
theorem dX8_isReachedCut_56 : decode cX8_isReachedCut 56 = .ok (.iload_n 1, 1) := by decide +kernel
theorem dX8_isReachedCut_57 : decode cX8_isReachedCut 57 = .ok (.imul, 1) := by decide +kernel
theorem dX8_isReachedCut_58 : decode cX8_isReachedCut 58 = .ok (.iadd, 1) := by decide +kernel
theorem dX8_isReachedCut_59 : decode cX8_isReachedCut 59 = .ok (.iload_n 2, 1) := by decide +kernel
theorem dX8_isReachedCut_60 : decode cX8_isReachedCut 60 = .ok (.iadd, 1) := by decide +kernel
theorem dX8_isReachedCut_61 : decode cX8_isReachedCut 61 = .ok (.iload 4, 2) := by decide +kernel
theorem dX8_isReachedCut_63 : decode cX8_isReachedCut 63 = .ok (.iastore, 1) := by decide +kernel
theorem dX8_isReachedCut_64 : decode cX8_isReachedCut 64 = .ok (.iload 5, 2) := by decide +kernel
theorem dX8_isReachedCut_66 : decode cX8_isReachedCut 66 = .ok (.ireturn, 1) := by decide +kernel
theorem dX8_cut_0 : decode cX8_cut 0 = .ok (.aload_n 0, 1) := by decide +kernel
theorem dX8_cut_1 : decode cX8_cut 1 = .ok (.getfield 11, 3) := by decide +kernel
theorem dX8_cut_4 : decode cX8_cut 4 = .ok (.invokestatic 99, 3) := by decide +kernel
theorem dX8_cut_7 : decode cX8_cut 7 = .ok (.iload_n 1, 1) := by decide +kernel
theorem dX8_cut_8 : decode cX8_cut 8 = .ok (.invokestatic 61, 3) := by decide +kernel
theorem dX8_cut_11 : decode cX8_cut 11 = .ok (.ifCond .ne 6, 3) := by decide +kernel
theorem dX8_cut_14 : decode cX8_cut 14 = .ok (.bipush (-5), 2) := by decide +kernel
theorem dX8_cut_16 : decode cX8_cut 16 = .ok (.ireturn, 1) := by decide +kernel
theorem dX8_cut_17 : decode cX8_cut 17 = .ok (.iconst 0, 1) := by decide +kernel
theorem dX8_cut_18 : decode cX8_cut 18 = .ok (.istore_n 2, 1) := by decide +kernel
theorem dX8_cut_19 : decode cX8_cut 19 = .ok (.iload_n 2, 1) := by decide +kernel
theorem dX8_cut_20 : decode cX8_cut 20 = .ok (.bipush 24, 2) := by decide +kernel
theorem dX8_cut_22 : decode cX8_cut 22 = .ok (.if_icmp .ge 43, 3) := by decide +kernel
theorem dX8_cut_25 : decode cX8_cut 25 = .ok (.iconst 0, 1) := by decide +kernel
theorem dX8_cut_26 : decode cX8_cut 26 = .ok (.istore_n 3, 1) := by decide +kernel
theorem dX8_cut_27 : decode cX8_cut 27 = .ok (.aload_n 0, 1) := by decide +kernel
theorem dX8_cut_28 : decode cX8_cut 28 = .ok (.iload_n 2, 1) := by decide +kernel
theorem dX8_cut_29 : decode cX8_cut 29 = .ok (.iload_n 3, 1) := by decide +kernel
theorem dX8_cut_30 : decode cX8_cut 30 = .ok (.invokevirtual 96, 3) := by decide +kernel
theorem dX8_cut_33 : decode cX8_cut 33 = .ok (.ifCond .eq 26, 3) := by decide +kernel
theorem dX8_cut_36 : decode cX8_cut 36 = .ok (.aload_n 0, 1) := by decide +kernel
theorem dX8_cut_37 : decode cX8_cut 37 = .ok (.iload_n 2, 1) := by decide +kernel
theorem dX8_cut_38 : decode cX8_cut 38 = .ok (.iload_n 3, 1) := by decide +kernel
theorem dX8_cut_39 : decode cX8_cut 39 = .ok (.iload_n 1, 1) := by decide +kernel
theorem dX8_cut_40 : decode cX8_cut 40 = .ok (.invokevirtual 102, 3) := by decide +kernel
theorem dX8_cut_43 : decode cX8_cut 43 = .ok (.ifCond .ne 10, 3) := by decide +kernel
theorem dX8_cut_46 : decode cX8_cut 46 = .ok (.bipush 10, 2) := by decide +kernel
theorem dX8_cut_48 : decode cX8_cut 48 = .ok (.iload_n 2, 1) := by decide +kernel
theorem dX8_cut_49 : decode cX8_cut 49 = .ok (.imul, 1) := by decide +kernel
theorem dX8_cut_50 : decode cX8_cut 50 = .ok (.iload_n 3, 1) := by decide +kernel
theorem dX8_cut_51 : decode cX8_cut 51 = .ok (.iadd, 1) := by decide +kernel
theorem dX8_cut_52 : decode cX8_cut 52 = .ok (.ireturn, 1) := by decide +kernel
theorem dX8_cut_53 : decode cX8_cut 53 = .ok (.iinc 3 1, 3) := by decide +kernel
theorem dX8_cut_56 : decode cX8_cut 56 = .ok (.goto (-29), 3) := by decide +kernel
theorem dX8_cut_59 : decode cX8_cut 59 = .ok (.iinc 2 1, 3) := by decide +kernel
theorem dX8_cut_62 : decode cX8_cut 62 = .ok (.goto (-43), 3) := by decide +kernel
theorem dX8_cut_65 : decode cX8_cut 65 = .ok (.bipush (-5), 2) := by decide +kernel
theorem dX8_cut_67 : decode cX8_cut 67 = .ok (.ireturn, 1) := by decide +kernel
theorem dX8_bits_0 : decode cX8_bits 0 = .ok (.iconst 0, 1) := by decide +kernel
theorem dX8_bits_1 : decode cX8_bits 1 = .ok (.istore_n 1, 1) := by decide +kernel
theorem dX8_bits_2 : decode cX8_bits 2 = .ok (.iconst 1, 1) := by decide +kernel
theorem dX8_bits_3 : decode cX8_bits 3 = .ok (.iload_n 1, 1) := by decide +kernel
theorem dX8_bits_4 : decode cX8_bits 4 = .ok (.ishl, 1) := by decide +kernel
theorem dX8_bits_5 : decode cX8_bits 5 = .ok (.iload_n 0, 1) := by decide +kernel
theorem dX8_bits_6 : decode cX8_bits 6 = .ok (.if_icmp .ge 9, 3) := by decide +kernel
theorem dX8_bits_9 : decode cX8_bits 9 = .ok (.iinc 1 1, 3) := by decide +kernel
theorem dX8_bits_12 : decode cX8_bits 12 = .ok (.goto (-10), 3) := by decide +kernel
theorem dX8_bits_15 : decode cX8_bits 15 = .ok (.iconst 1, 1) := by decide +kernel
theorem dX8_bits_16 : decode cX8_bits 16 = .ok (.iload_n 1, 1) := by decide +kernel
theorem dX8_bits_17 : decode cX8_bits 17 = .ok (.iadd, 1) := by decide +kernel
theorem dX8_bits_18 : decode cX8_bits 18 = .ok (.ireturn, 1) := by decide +kernel
theorem dX8_flag_0 : decode cX8_flag 0 = .ok (.iload_n 0, 1) := by decide +kernel
theorem dX8_flag_1 : decode cX8_flag 1 = .ok (.ifCond .eq 7, 3) := by decide +kernel
theorem dX8_flag_4 : decode cX8_flag 4 = .ok (.iconst 1, 1) := by decide +kernel
theorem dX8_flag_5 : decode cX8_flag 5 = .ok (.goto 4, 3) := by decide +kernel
theorem dX8_flag_8 : decode cX8_flag 8 = .ok (.iconst 0, 1) := by decide +kernel
theorem dX8_flag_9 : decode cX8_flag 9 = .ok (.ireturn, 1) := by decide +kernel
theorem dX8_of_0 : decode cX8_of 0 = .ok (.aload_n 0, 1) := by decide +kernel
theorem dX8_of_1 : decode cX8_of 1 = .ok (.iload_n 1, 1) := by decide +kernel
theorem dX8_of_2 : decode cX8_of 2 = .ok (.invokevirtual 65, 3) := by decide +kernel
theorem dX8_of_5 : decode cX8_of 5 = .ok (.ifCond .ne 5, 3) := by decide +kernel
theorem dX8_of_8 : decode cX8_of 8 = .ok (.iconst (-1), 1) := by decide +kernel
theorem dX8_of_9 : decode cX8_of 9 = .ok (.ireturn, 1) := by decide +kernel
theorem dX8_of_10 : decode cX8_of 10 = .ok (.iload_n 2, 1) := by decide +kernel
theorem dX8_of_11 : decode cX8_of 11 = .ok (.tableswitch 241 0 12 #[65, 75, 85, 95, 110, 120, 135, 150, 156, 165, 178, 222, 228], 65) := by decide +kernel
theorem dX8_of_76 : decode cX8_of 76 = .ok (.aload_n 0, 1) := by decide +kernel
theorem dX8_of_77 : decode cX8_of 77 = .ok (.getfield 11, 3) := by decide +kernel
theorem dX8_of_80 : decode cX8_of 80 = .ok (.bipush 20, 2) := by decide +kernel
theorem dX8_of_82 : decode cX8_of 82 = .ok (.iload_n 1, 1) := by decide +kernel
theorem dX8_of_83 : decode cX8_of 83 = .ok (.iadd, 1) := by decide +kernel
theorem dX8_of_84 : decode cX8_of 84 = .ok (.iaload, 1) := by decide +kernel
theorem dX8_of_85 : decode cX8_of 85 = .ok (.ireturn, 1) := by decide +kernel
theorem dX8_of_86 : decode cX8_of 86 = .ok (.aload_n 0, 1) := by decide +kernel
theorem dX8_of_87 : decode cX8_of 87 = .ok (.getfield 11, 3) := by decide +kernel
theorem dX8_of_90 : decode cX8_of 90 = .ok (.bipush 44, 2) := by decide +kernel
theorem dX8_of_92 : decode cX8_of 92 = .ok (.iload_n 1, 1) := by decide +kernel
theorem dX8_of_93 : decode cX8_of 93 = .ok (.iadd, 1) := by decide +kernel
theorem dX8_of_94 : decode cX8_of 94 = .ok (.iaload, 1) := by decide +kernel
theorem dX8_of_95 : decode cX8_of 95 = .ok (.ireturn, 1) := by decide +kernel
theorem dX8_of_96 : decode cX8_of 96 = .ok (.aload_n 0, 1) := by decide +kernel
theorem dX8_of_97 : decode cX8_of 97 = .ok (.getfield 11, 3) := by decide +kernel
theorem dX8_of_100 : decode cX8_of 100 = .ok (.bipush 68, 2) := by decide +kernel
theorem dX8_of_102 : decode cX8_of 102 = .ok (.iload_n 1, 1) := by decide +kernel
theorem dX8_of_103 : decode cX8_of 103 = .ok (.iadd, 1) := by decide +kernel
theorem dX8_of_104 : decode cX8_of 104 = .ok (.iaload, 1) := by decide +kernel
theorem dX8_of_105 : decode cX8_of 105 = .ok (.ireturn, 1) := by decide +kernel
theorem dX8_of_106 : decode cX8_of 106 = .ok (.aload_n 0, 1) := by decide +kernel
theorem dX8_of_107 : decode cX8_of 107 = .ok (.getfield 11, 3) := by decide +kernel
theorem dX8_of_110 : decode cX8_of 110 = .ok (.bipush 12, 2) := by decide +kernel
theorem dX8_of_112 : decode cX8_of 112 = .ok (.iaload, 1) := by decide +kernel
theorem dX8_of_113 : decode cX8_of 113 = .ok (.iload_n 1, 1) := by decide +kernel
theorem dX8_of_114 : decode cX8_of 114 = .ok (.invokestatic 61, 3) := by decide +kernel
theorem dX8_of_117 : decode cX8_of 117 = .ok (.invokestatic 106, 3) := by decide +kernel
theorem dX8_of_120 : decode cX8_of 120 = .ok (.ireturn, 1) := by decide +kernel
theorem dX8_of_121 : decode cX8_of 121 = .ok (.aload_n 0, 1) := by decide +kernel
theorem dX8_of_122 : decode cX8_of 122 = .ok (.getfield 11, 3) := by decide +kernel
theorem dX8_of_125 : decode cX8_of 125 = .ok (.bipush 92, 2) := by decide +kernel
theorem dX8_of_127 : decode cX8_of 127 = .ok (.iload_n 1, 1) := by decide +kernel
theorem dX8_of_128 : decode cX8_of 128 = .ok (.iadd, 1) := by decide +kernel
theorem dX8_of_129 : decode cX8_of 129 = .ok (.iaload, 1) := by decide +kernel
theorem dX8_of_130 : decode cX8_of 130 = .ok (.ireturn, 1) := by decide +kernel
theorem dX8_of_131 : decode cX8_of 131 = .ok (.aload_n 0, 1) := by decide +kernel
theorem dX8_of_132 : decode cX8_of 132 = .ok (.getfield 11, 3) := by decide +kernel
theorem dX8_of_135 : decode cX8_of 135 = .ok (.bipush 13, 2) := by decide +kernel
theorem dX8_of_137 : decode cX8_of 137 = .ok (.iaload, 1) := by decide +kernel
theorem dX8_of_138 : decode cX8_of 138 = .ok (.iload_n 1, 1) := by decide +kernel
theorem dX8_of_139 : decode cX8_of 139 = .ok (.invokestatic 61, 3) := by decide +kernel
theorem dX8_of_142 : decode cX8_of 142 = .ok (.invokestatic 106, 3) := by decide +kernel
theorem dX8_of_145 : decode cX8_of 145 = .ok (.ireturn, 1) := by decide +kernel
theorem dX8_of_146 : decode cX8_of 146 = .ok (.aload_n 0, 1) := by decide +kernel
theorem dX8_of_147 : decode cX8_of 147 = .ok (.getfield 11, 3) := by decide +kernel
theorem dX8_of_150 : decode cX8_of 150 = .ok (.bipush 14, 2) := by decide +kernel
theorem dX8_of_152 : decode cX8_of 152 = .ok (.iaload, 1) := by decide +kernel
theorem dX8_of_153 : decode cX8_of 153 = .ok (.iload_n 1, 1) := by decide +kernel
theorem dX8_of_154 : decode cX8_of 154 = .ok (.invokestatic 61, 3) := by decide +kernel
theorem dX8_of_157 : decode cX8_of 157 = .ok (.invokestatic 106, 3) := by decide +kernel
theorem dX8_of_160 : decode cX8_of 160 = .ok (.ireturn, 1) := by decide +kernel
theorem dX8_of_161 : decode cX8_of 161 = .ok (.aload_n 0, 1) := by decide +kernel
theorem dX8_of_162 : decode cX8_of 162 = .ok (.iload_n 1, 1) := by decide +kernel
theorem dX8_of_163 : decode cX8_of 163 = .ok (.invokevirtual 110, 3) := by decide +kernel
theorem dX8_of_166 : decode cX8_of 166 = .ok (.ireturn, 1) := by decide +kernel
theorem dX8_of_167 : decode cX8_of 167 = .ok (.aload_n 0, 1) := by decide +kernel
theorem dX8_of_168 : decode cX8_of 168 = .ok (.getfield 11, 3) := by decide +kernel
theorem dX8_of_171 : decode cX8_of 171 = .ok (.iload_n 1, 1) := by decide +kernel
theorem dX8_of_172 : decode cX8_of 172 = .ok (.invokestatic 114, 3) := by decide +kernel
theorem dX8_of_175 : decode cX8_of 175 = .ok (.ireturn, 1) := by decide +kernel
theorem dX8_of_176 : decode cX8_of 176 = .ok (.aload_n 0, 1) := by decide +kernel
theorem dX8_of_177 : decode cX8_of 177 = .ok (.getfield 11, 3) := by decide +kernel
theorem dX8_of_180 : decode cX8_of 180 = .ok (.iconst 1, 1) := by decide +kernel
theorem dX8_of_181 : decode cX8_of 181 = .ok (.iload_n 1, 1) := by decide +kernel
theorem dX8_of_182 : decode cX8_of 182 = .ok (.ishl, 1) := by decide +kernel
theorem dX8_of_183 : decode cX8_of 183 = .ok (.bipush 24, 2) := by decide +kernel
theorem dX8_of_185 : decode cX8_of 185 = .ok (.invokestatic 93, 3) := by decide +kernel
theorem dX8_of_188 : decode cX8_of 188 = .ok (.ireturn, 1) := by decide +kernel
theorem dX8_of_189 : decode cX8_of 189 = .ok (.aload_n 0, 1) := by decide +kernel
theorem dX8_of_190 : decode cX8_of 190 = .ok (.getfield 11, 3) := by decide +kernel
theorem dX8_of_193 : decode cX8_of 193 = .ok (.invokestatic 99, 3) := by decide +kernel
theorem dX8_of_196 : decode cX8_of 196 = .ok (.iload_n 1, 1) := by decide +kernel
theorem dX8_of_197 : decode cX8_of 197 = .ok (.invokestatic 61, 3) := by decide +kernel
theorem dX8_of_200 : decode cX8_of 200 = .ok (.ifCond .eq 31, 3) := by decide +kernel
theorem dX8_of_203 : decode cX8_of 203 = .ok (.aload_n 0, 1) := by decide +kernel
theorem dX8_of_204 : decode cX8_of 204 = .ok (.getfield 11, 3) := by decide +kernel
theorem dX8_of_207 : decode cX8_of 207 = .ok (.invokestatic 99, 3) := by decide +kernel
theorem dX8_of_210 : decode cX8_of 210 = .ok (.aload_n 0, 1) := by decide +kernel
theorem dX8_of_211 : decode cX8_of 211 = .ok (.getfield 11, 3) := by decide +kernel
theorem dX8_of_214 : decode cX8_of 214 = .ok (.aload_n 0, 1) := by decide +kernel
theorem dX8_of_215 : decode cX8_of 215 = .ok (.getfield 11, 3) := by decide +kernel
theorem dX8_of_218 : decode cX8_of 218 = .ok (.invokestatic 89, 3) := by decide +kernel
theorem dX8_of_221 : decode cX8_of 221 = .ok (.iload_n 1, 1) := by decide +kernel
theorem dX8_of_222 : decode cX8_of 222 = .ok (.invokestatic 93, 3) := by decide +kernel
theorem dX8_of_225 : decode cX8_of 225 = .ok (.iconst (-1), 1) := by decide +kernel
theorem dX8_of_226 : decode cX8_of 226 = .ok (.ixor, 1) := by decide +kernel
theorem dX8_of_227 : decode cX8_of 227 = .ok (.iand, 1) := by decide +kernel
theorem dX8_of_228 : decode cX8_of 228 = .ok (.goto 4, 3) := by decide +kernel
theorem dX8_of_231 : decode cX8_of 231 = .ok (.iconst 0, 1) := by decide +kernel
theorem dX8_of_232 : decode cX8_of 232 = .ok (.ireturn, 1) := by decide +kernel
theorem dX8_of_233 : decode cX8_of 233 = .ok (.aload_n 0, 1) := by decide +kernel
theorem dX8_of_234 : decode cX8_of 234 = .ok (.iload_n 1, 1) := by decide +kernel
theorem dX8_of_235 : decode cX8_of 235 = .ok (.invokevirtual 118, 3) := by decide +kernel
theorem dX8_of_238 : decode cX8_of 238 = .ok (.ireturn, 1) := by decide +kernel
theorem dX8_of_239 : decode cX8_of 239 = .ok (.aload_n 0, 1) := by decide +kernel
theorem dX8_of_240 : decode cX8_of 240 = .ok (.getfield 11, 3) := by decide +kernel
theorem dX8_of_243 : decode cX8_of 243 = .ok (.bipush 68, 2) := by decide +kernel
theorem dX8_of_245 : decode cX8_of 245 = .ok (.iload_n 1, 1) := by decide +kernel
theorem dX8_of_246 : decode cX8_of 246 = .ok (.iadd, 1) := by decide +kernel
theorem dX8_of_247 : decode cX8_of 247 = .ok (.iaload, 1) := by decide +kernel
theorem dX8_of_248 : decode cX8_of 248 = .ok (.invokestatic 121, 3) := by decide +kernel
theorem dX8_of_251 : decode cX8_of 251 = .ok (.ireturn, 1) := by decide +kernel
theorem dX8_of_252 : decode cX8_of 252 = .ok (.iconst (-1), 1) := by decide +kernel
theorem dX8_of_253 : decode cX8_of 253 = .ok (.ireturn, 1) := by decide +kernel
theorem dX8_field_0 : decode cX8_field 0 = .ok (.aload_n 0, 1) := by decide +kernel
theorem dX8_field_1 : decode cX8_field 1 = .ok (.iload_n 1, 1) := by decide +kernel
theorem dX8_field_2 : decode cX8_field 2 = .ok (.iload_n 2, 1) := by decide +kernel
theorem dX8_field_3 : decode cX8_field 3 = .ok (.invokevirtual 96, 3) := by decide +kernel
theorem dX8_field_6 : decode cX8_field 6 = .ok (.ifCond .eq 21, 3) := by decide +kernel
theorem dX8_field_9 : decode cX8_field 9 = .ok (.aload_n 0, 1) := by decide +kernel
theorem dX8_field_10 : decode cX8_field 10 = .ok (.getfield 11, 3) := by decide +kernel
theorem dX8_field_13 : decode cX8_field 13 = .ok (.sipush 140, 3) := by decide +kernel
theorem dX8_field_16 : decode cX8_field 16 = .ok (.bipush 6, 2) := by decide +kernel
theorem dX8_field_18 : decode cX8_field 18 = .ok (.iload_n 1, 1) := by decide +kernel
theorem dX8_field_19 : decode cX8_field 19 = .ok (.imul, 1) := by decide +kernel
theorem dX8_field_20 : decode cX8_field 20 = .ok (.iadd, 1) := by decide +kernel
theorem dX8_field_21 : decode cX8_field 21 = .ok (.iload_n 2, 1) := by decide +kernel
theorem dX8_field_22 : decode cX8_field 22 = .ok (.iadd, 1) := by decide +kernel
theorem dX8_field_23 : decode cX8_field 23 = .ok (.iaload, 1) := by decide +kernel
theorem dX8_field_24 : decode cX8_field 24 = .ok (.goto 4, 3) := by decide +kernel
theorem dX8_field_27 : decode cX8_field 27 = .ok (.iconst (-1), 1) := by decide +kernel
theorem dX8_field_28 : decode cX8_field 28 = .ok (.ireturn, 1) := by decide +kernel
theorem dX8_turnedNow_0 : decode cX8_turnedNow 0 = .ok (.aload_n 0, 1) := by decide +kernel
theorem dX8_turnedNow_1 : decode cX8_turnedNow 1 = .ok (.iconst 2, 1) := by decide +kernel
theorem dX8_turnedNow_2 : decode cX8_turnedNow 2 = .ok (.iaload, 1) := by decide +kernel
theorem dX8_turnedNow_3 : decode cX8_turnedNow 3 = .ok (.ifCond .ne 7, 3) := by decide +kernel
theorem dX8_turnedNow_6 : decode cX8_turnedNow 6 = .ok (.iconst 0, 1) := by decide +kernel
theorem dX8_turnedNow_7 : decode cX8_turnedNow 7 = .ok (.goto 15, 3) := by decide +kernel
theorem dX8_turnedNow_10 : decode cX8_turnedNow 10 = .ok (.iconst 0, 1) := by decide +kernel
theorem dX8_turnedNow_11 : decode cX8_turnedNow 11 = .ok (.aload_n 0, 1) := by decide +kernel
theorem dX8_turnedNow_12 : decode cX8_turnedNow 12 = .ok (.bipush 6, 2) := by decide +kernel
theorem dX8_turnedNow_14 : decode cX8_turnedNow 14 = .ok (.iaload, 1) := by decide +kernel
theorem dX8_turnedNow_15 : decode cX8_turnedNow 15 = .ok (.aload_n 0, 1) := by decide +kernel
theorem dX8_turnedNow_16 : decode cX8_turnedNow 16 = .ok (.iconst 3, 1) := by decide +kernel
theorem dX8_turnedNow_17 : decode cX8_turnedNow 17 = .ok (.iaload, 1) := by decide +kernel
theorem dX8_turnedNow_18 : decode cX8_turnedNow 18 = .ok (.isub, 1) := by decide +kernel
theorem dX8_turnedNow_19 : decode cX8_turnedNow 19 = .ok (.invokestatic 124, 3) := by decide +kernel
theorem dX8_turnedNow_22 : decode cX8_turnedNow 22 = .ok (.ireturn, 1) := by decide +kernel
theorem dX8_back_0 : decode cX8_back 0 = .ok (.aload_n 0, 1) := by decide +kernel
theorem dX8_back_1 : decode cX8_back 1 = .ok (.invokestatic 129, 3) := by decide +kernel
theorem dX8_back_4 : decode cX8_back 4 = .ok (.ifCond .ne 8, 3) := by decide +kernel
theorem dX8_back_7 : decode cX8_back 7 = .ok (.bipush (-5), 2) := by decide +kernel
theorem dX8_back_9 : decode cX8_back 9 = .ok (.goto 14, 3) := by decide +kernel
theorem dX8_back_12 : decode cX8_back 12 = .ok (.aload_n 0, 1) := by decide +kernel
theorem dX8_back_13 : decode cX8_back 13 = .ok (.bipush 116, 2) := by decide +kernel
theorem dX8_back_15 : decode cX8_back 15 = .ok (.aload_n 0, 1) := by decide +kernel
theorem dX8_back_16 : decode cX8_back 16 = .ok (.bipush 6, 2) := by decide +kernel
theorem dX8_back_18 : decode cX8_back 18 = .ok (.iaload, 1) := by decide +kernel
theorem dX8_back_19 : decode cX8_back 19 = .ok (.iadd, 1) := by decide +kernel
theorem dX8_back_20 : decode cX8_back 20 = .ok (.iconst 1, 1) := by decide +kernel
theorem dX8_back_21 : decode cX8_back 21 = .ok (.isub, 1) := by decide +kernel
theorem dX8_back_22 : decode cX8_back 22 = .ok (.iaload, 1) := by decide +kernel
theorem dX8_back_23 : decode cX8_back 23 = .ok (.ireturn, 1) := by decide +kernel
theorem dX8_turnedAt_0 : decode cX8_turnedAt 0 = .ok (.aload_n 0, 1) := by decide +kernel
theorem dX8_turnedAt_1 : decode cX8_turnedAt 1 = .ok (.getfield 11, 3) := by decide +kernel
theorem dX8_turnedAt_4 : decode cX8_turnedAt 4 = .ok (.iconst 3, 1) := by decide +kernel
theorem dX8_turnedAt_5 : decode cX8_turnedAt 5 = .ok (.iaload, 1) := by decide +kernel
theorem dX8_turnedAt_6 : decode cX8_turnedAt 6 = .ok (.istore_n 2, 1) := by decide +kernel
theorem dX8_turnedAt_7 : decode cX8_turnedAt 7 = .ok (.aload_n 0, 1) := by decide +kernel
theorem dX8_turnedAt_8 : decode cX8_turnedAt 8 = .ok (.getfield 11, 3) := by decide +kernel
theorem dX8_turnedAt_11 : decode cX8_turnedAt 11 = .ok (.iconst 2, 1) := by decide +kernel
theorem dX8_turnedAt_12 : decode cX8_turnedAt 12 = .ok (.iaload, 1) := by decide +kernel
theorem dX8_turnedAt_13 : decode cX8_turnedAt 13 = .ok (.iconst 1, 1) := by decide +kernel
theorem dX8_turnedAt_14 : decode cX8_turnedAt 14 = .ok (.if_icmp .ne 35, 3) := by decide +kernel
theorem dX8_turnedAt_17 : decode cX8_turnedAt 17 = .ok (.iload_n 2, 1) := by decide +kernel
theorem dX8_turnedAt_18 : decode cX8_turnedAt 18 = .ok (.aload_n 0, 1) := by decide +kernel
theorem dX8_turnedAt_19 : decode cX8_turnedAt 19 = .ok (.getfield 11, 3) := by decide +kernel
theorem dX8_turnedAt_22 : decode cX8_turnedAt 22 = .ok (.bipush 6, 2) := by decide +kernel
theorem dX8_turnedAt_24 : decode cX8_turnedAt 24 = .ok (.iaload, 1) := by decide +kernel
theorem dX8_turnedAt_25 : decode cX8_turnedAt 25 = .ok (.if_icmp .ge 24, 3) := by decide +kernel
theorem dX8_turnedAt_28 : decode cX8_turnedAt 28 = .ok (.aload_n 0, 1) := by decide +kernel
theorem dX8_turnedAt_29 : decode cX8_turnedAt 29 = .ok (.getfield 11, 3) := by decide +kernel
theorem dX8_turnedAt_32 : decode cX8_turnedAt 32 = .ok (.bipush 116, 2) := by decide +kernel
theorem dX8_turnedAt_34 : decode cX8_turnedAt 34 = .ok (.iload_n 2, 1) := by decide +kernel
theorem dX8_turnedAt_35 : decode cX8_turnedAt 35 = .ok (.iadd, 1) := by decide +kernel
theorem dX8_turnedAt_36 : decode cX8_turnedAt 36 = .ok (.iaload, 1) := by decide +kernel
theorem dX8_turnedAt_37 : decode cX8_turnedAt 37 = .ok (.iload_n 1, 1) := by decide +kernel
theorem dX8_turnedAt_38 : decode cX8_turnedAt 38 = .ok (.if_icmp .ne 5, 3) := by decide +kernel
theorem dX8_turnedAt_41 : decode cX8_turnedAt 41 = .ok (.iload_n 2, 1) := by decide +kernel
theorem dX8_turnedAt_42 : decode cX8_turnedAt 42 = .ok (.ireturn, 1) := by decide +kernel
theorem dX8_turnedAt_43 : decode cX8_turnedAt 43 = .ok (.iinc 2 1, 3) := by decide +kernel
theorem dX8_turnedAt_46 : decode cX8_turnedAt 46 = .ok (.goto (-39), 3) := by decide +kernel
theorem dX8_turnedAt_49 : decode cX8_turnedAt 49 = .ok (.bipush (-5), 2) := by decide +kernel
theorem dX8_turnedAt_51 : decode cX8_turnedAt 51 = .ok (.ireturn, 1) := by decide +kernel
theorem dX8_raw_0 : decode cX8_raw 0 = .ok (.aload_n 0, 1) := by decide +kernel
theorem dX8_raw_1 : decode cX8_raw 1 = .ok (.iload_n 1, 1) := by decide +kernel
theorem dX8_raw_2 : decode cX8_raw 2 = .ok (.iload_n 2, 1) := by decide +kernel
theorem dX8_raw_3 : decode cX8_raw 3 = .ok (.invokevirtual 96, 3) := by decide +kernel
theorem dX8_raw_6 : decode cX8_raw 6 = .ok (.ifCond .ne 5, 3) := by decide +kernel
theorem dX8_raw_9 : decode cX8_raw 9 = .ok (.iconst (-1), 1) := by decide +kernel
theorem dX8_raw_10 : decode cX8_raw 10 = .ok (.ireturn, 1) := by decide +kernel
theorem dX8_raw_11 : decode cX8_raw 11 = .ok (.aload_n 0, 1) := by decide +kernel
theorem dX8_raw_12 : decode cX8_raw 12 = .ok (.iload_n 1, 1) := by decide +kernel
theorem dX8_raw_13 : decode cX8_raw 13 = .ok (.invokevirtual 132, 3) := by decide +kernel
theorem dX8_raw_16 : decode cX8_raw 16 = .ok (.istore_n 3, 1) := by decide +kernel
theorem dX8_raw_17 : decode cX8_raw 17 = .ok (.iload_n 3, 1) := by decide +kernel
theorem dX8_raw_18 : decode cX8_raw 18 = .ok (.ifCond .lt 16, 3) := by decide +kernel
theorem dX8_raw_21 : decode cX8_raw 21 = .ok (.aload_n 0, 1) := by decide +kernel
theorem dX8_raw_22 : decode cX8_raw 22 = .ok (.getfield 11, 3) := by decide +kernel
theorem dX8_raw_25 : decode cX8_raw 25 = .ok (.bipush 92, 2) := by decide +kernel
theorem dX8_raw_27 : decode cX8_raw 27 = .ok (.iload_n 1, 1) := by decide +kernel
theorem dX8_raw_28 : decode cX8_raw 28 = .ok (.iadd, 1) := by decide +kernel
theorem dX8_raw_29 : decode cX8_raw 29 = .ok (.iaload, 1) := by decide +kernel
theorem dX8_raw_30 : decode cX8_raw 30 = .ok (.iload_n 2, 1) := by decide +kernel
theorem dX8_raw_31 : decode cX8_raw 31 = .ok (.if_icmp .eq 19, 3) := by decide +kernel
theorem dX8_raw_34 : decode cX8_raw 34 = .ok (.aload_n 0, 1) := by decide +kernel
theorem dX8_raw_35 : decode cX8_raw 35 = .ok (.getfield 11, 3) := by decide +kernel
theorem dX8_raw_38 : decode cX8_raw 38 = .ok (.sipush 140, 3) := by decide +kernel
theorem dX8_raw_41 : decode cX8_raw 41 = .ok (.bipush 6, 2) := by decide +kernel
theorem dX8_raw_43 : decode cX8_raw 43 = .ok (.iload_n 1, 1) := by decide +kernel
theorem dX8_raw_44 : decode cX8_raw 44 = .ok (.imul, 1) := by decide +kernel
theorem dX8_raw_45 : decode cX8_raw 45 = .ok (.iadd, 1) := by decide +kernel
theorem dX8_raw_46 : decode cX8_raw 46 = .ok (.iload_n 2, 1) := by decide +kernel
theorem dX8_raw_47 : decode cX8_raw 47 = .ok (.iadd, 1) := by decide +kernel
theorem dX8_raw_48 : decode cX8_raw 48 = .ok (.iaload, 1) := by decide +kernel
theorem dX8_raw_49 : decode cX8_raw 49 = .ok (.ireturn, 1) := by decide +kernel
theorem dX8_raw_50 : decode cX8_raw 50 = .ok (.iload_n 3, 1) := by decide +kernel
theorem dX8_raw_51 : decode cX8_raw 51 = .ok (.aload_n 0, 1) := by decide +kernel
theorem dX8_raw_52 : decode cX8_raw 52 = .ok (.getfield 11, 3) := by decide +kernel
theorem dX8_raw_55 : decode cX8_raw 55 = .ok (.iconst 3, 1) := by decide +kernel
theorem dX8_raw_56 : decode cX8_raw 56 = .ok (.iaload, 1) := by decide +kernel
theorem dX8_raw_57 : decode cX8_raw 57 = .ok (.if_icmp .ne 8, 3) := by decide +kernel
theorem dX8_raw_60 : decode cX8_raw 60 = .ok (.bipush (-5), 2) := by decide +kernel
theorem dX8_raw_62 : decode cX8_raw 62 = .ok (.goto 14, 3) := by decide +kernel
theorem dX8_raw_65 : decode cX8_raw 65 = .ok (.aload_n 0, 1) := by decide +kernel
theorem dX8_raw_66 : decode cX8_raw 66 = .ok (.getfield 11, 3) := by decide +kernel
theorem dX8_raw_69 : decode cX8_raw 69 = .ok (.bipush 116, 2) := by decide +kernel
theorem dX8_raw_71 : decode cX8_raw 71 = .ok (.iload_n 3, 1) := by decide +kernel
theorem dX8_raw_72 : decode cX8_raw 72 = .ok (.iadd, 1) := by decide +kernel
theorem dX8_raw_73 : decode cX8_raw 73 = .ok (.iconst 1, 1) := by decide +kernel
theorem dX8_raw_74 : decode cX8_raw 74 = .ok (.isub, 1) := by decide +kernel
theorem dX8_raw_75 : decode cX8_raw 75 = .ok (.iaload, 1) := by decide +kernel
theorem dX8_raw_76 : decode cX8_raw 76 = .ok (.ireturn, 1) := by decide +kernel
theorem dX8_hold_0 : decode cX8_hold 0 = .ok (.aload_n 0, 1) := by decide +kernel
theorem dX8_hold_1 : decode cX8_hold 1 = .ok (.iload_n 1, 1) := by decide +kernel
theorem dX8_hold_2 : decode cX8_hold 2 = .ok (.iload_n 2, 1) := by decide +kernel
theorem dX8_hold_3 : decode cX8_hold 3 = .ok (.invokevirtual 96, 3) := by decide +kernel
theorem dX8_hold_6 : decode cX8_hold 6 = .ok (.ifCond .eq 16, 3) := by decide +kernel
theorem dX8_hold_9 : decode cX8_hold 9 = .ok (.iload_n 3, 1) := by decide +kernel
theorem dX8_hold_10 : decode cX8_hold 10 = .ok (.iconst (-1), 1) := by decide +kernel
theorem dX8_hold_11 : decode cX8_hold 11 = .ok (.if_icmp .eq 13, 3) := by decide +kernel
theorem dX8_hold_14 : decode cX8_hold 14 = .ok (.aload_n 0, 1) := by decide +kernel
theorem dX8_hold_15 : decode cX8_hold 15 = .ok (.iload_n 3, 1) := by decide +kernel
theorem dX8_hold_16 : decode cX8_hold 16 = .ok (.invokevirtual 65, 3) := by decide +kernel
theorem dX8_hold_19 : decode cX8_hold 19 = .ok (.ifCond .ne 5, 3) := by decide +kernel
theorem dX8_hold_22 : decode cX8_hold 22 = .ok (.iconst (-1), 1) := by decide +kernel
theorem dX8_hold_23 : decode cX8_hold 23 = .ok (.ireturn, 1) := by decide +kernel
theorem dX8_hold_24 : decode cX8_hold 24 = .ok (.aload_n 0, 1) := by decide +kernel
theorem dX8_hold_25 : decode cX8_hold 25 = .ok (.getfield 11, 3) := by decide +kernel
theorem dX8_hold_28 : decode cX8_hold 28 = .ok (.iconst 2, 1) := by decide +kernel
theorem dX8_hold_29 : decode cX8_hold 29 = .ok (.iaload, 1) := by decide +kernel
theorem dX8_hold_30 : decode cX8_hold 30 = .ok (.iconst 1, 1) := by decide +kernel
theorem dX8_hold_31 : decode cX8_hold 31 = .ok (.if_icmp .ne 6, 3) := by decide +kernel
theorem dX8_hold_34 : decode cX8_hold 34 = .ok (.bipush (-3), 2) := by decide +kernel
theorem dX8_hold_36 : decode cX8_hold 36 = .ok (.ireturn, 1) := by decide +kernel
theorem dX8_hold_37 : decode cX8_hold 37 = .ok (.aload_n 0, 1) := by decide +kernel
theorem dX8_hold_38 : decode cX8_hold 38 = .ok (.getfield 11, 3) := by decide +kernel
theorem dX8_hold_41 : decode cX8_hold 41 = .ok (.sipush 140, 3) := by decide +kernel
theorem dX8_hold_44 : decode cX8_hold 44 = .ok (.bipush 6, 2) := by decide +kernel
theorem dX8_hold_46 : decode cX8_hold 46 = .ok (.iload_n 1, 1) := by decide +kernel
theorem dX8_hold_47 : decode cX8_hold 47 = .ok (.imul, 1) := by decide +kernel
theorem dX8_hold_48 : decode cX8_hold 48 = .ok (.iadd, 1) := by decide +kernel
theorem dX8_hold_49 : decode cX8_hold 49 = .ok (.iload_n 2, 1) := by decide +kernel
theorem dX8_hold_50 : decode cX8_hold 50 = .ok (.iadd, 1) := by decide +kernel
theorem dX8_hold_51 : decode cX8_hold 51 = .ok (.iaload, 1) := by decide +kernel
theorem dX8_hold_52 : decode cX8_hold 52 = .ok (.istore 4, 2) := by decide +kernel
theorem dX8_hold_54 : decode cX8_hold 54 = .ok (.aload_n 0, 1) := by decide +kernel
theorem dX8_hold_55 : decode cX8_hold 55 = .ok (.getfield 11, 3) := by decide +kernel
theorem dX8_hold_58 : decode cX8_hold 58 = .ok (.sipush 140, 3) := by decide +kernel
theorem dX8_hold_61 : decode cX8_hold 61 = .ok (.bipush 6, 2) := by decide +kernel
theorem dX8_hold_63 : decode cX8_hold 63 = .ok (.iload_n 1, 1) := by decide +kernel
theorem dX8_hold_64 : decode cX8_hold 64 = .ok (.imul, 1) := by decide +kernel
theorem dX8_hold_65 : decode cX8_hold 65 = .ok (.iadd, 1) := by decide +kernel
theorem dX8_hold_66 : decode cX8_hold 66 = .ok (.iload_n 2, 1) := by decide +kernel
theorem dX8_hold_67 : decode cX8_hold 67 = .ok (.iadd, 1) := by decide +kernel
theorem dX8_hold_68 : decode cX8_hold 68 = .ok (.iload_n 3, 1) := by decide +kernel
theorem dX8_hold_69 : decode cX8_hold 69 = .ok (.iconst (-1), 1) := by decide +kernel
theorem dX8_hold_70 : decode cX8_hold 70 = .ok (.if_icmp .ne 8, 3) := by decide +kernel
theorem dX8_hold_73 : decode cX8_hold 73 = .ok (.bipush (-5), 2) := by decide +kernel
theorem dX8_hold_75 : decode cX8_hold 75 = .ok (.goto 4, 3) := by decide +kernel
theorem dX8_hold_78 : decode cX8_hold 78 = .ok (.iload_n 3, 1) := by decide +kernel
theorem dX8_hold_79 : decode cX8_hold 79 = .ok (.iastore, 1) := by decide +kernel
theorem dX8_hold_80 : decode cX8_hold 80 = .ok (.aload_n 0, 1) := by decide +kernel
theorem dX8_hold_81 : decode cX8_hold 81 = .ok (.getfield 11, 3) := by decide +kernel
theorem dX8_hold_84 : decode cX8_hold 84 = .ok (.bipush 15, 2) := by decide +kernel
theorem dX8_hold_86 : decode cX8_hold 86 = .ok (.iconst 0, 1) := by decide +kernel
theorem dX8_hold_87 : decode cX8_hold 87 = .ok (.iastore, 1) := by decide +kernel
theorem dX8_hold_88 : decode cX8_hold 88 = .ok (.iload 4, 2) := by decide +kernel
theorem dX8_hold_90 : decode cX8_hold 90 = .ok (.ireturn, 1) := by decide +kernel
theorem dX8_tag_0 : decode cX8_tag 0 = .ok (.aload_n 0, 1) := by decide +kernel
theorem dX8_tag_1 : decode cX8_tag 1 = .ok (.iload_n 1, 1) := by decide +kernel
theorem dX8_tag_2 : decode cX8_tag 2 = .ok (.invokevirtual 65, 3) := by decide +kernel
theorem dX8_tag_5 : decode cX8_tag 5 = .ok (.ifCond .ne 5, 3) := by decide +kernel
theorem dX8_tag_8 : decode cX8_tag 8 = .ok (.iconst (-1), 1) := by decide +kernel
theorem dX8_tag_9 : decode cX8_tag 9 = .ok (.ireturn, 1) := by decide +kernel
theorem dX8_tag_10 : decode cX8_tag 10 = .ok (.iload_n 2, 1) := by decide +kernel
theorem dX8_tag_11 : decode cX8_tag 11 = .ok (.i2l, 1) := by decide +kernel
theorem dX8_tag_12 : decode cX8_tag 12 = .ok (.lconst 0, 1) := by decide +kernel
theorem dX8_tag_13 : decode cX8_tag 13 = .ok (.ldc2_w 71, 3) := by decide +kernel
theorem dX8_tag_16 : decode cX8_tag 16 = .ok (.invokestatic 57, 3) := by decide +kernel
theorem dX8_tag_19 : decode cX8_tag 19 = .ok (.ifCond .ne 6, 3) := by decide +kernel
theorem dX8_tag_22 : decode cX8_tag 22 = .ok (.bipush (-2), 2) := by decide +kernel
theorem dX8_tag_24 : decode cX8_tag 24 = .ok (.ireturn, 1) := by decide +kernel
theorem dX8_tag_25 : decode cX8_tag 25 = .ok (.aload_n 0, 1) := by decide +kernel
theorem dX8_tag_26 : decode cX8_tag 26 = .ok (.getfield 11, 3) := by decide +kernel
theorem dX8_tag_29 : decode cX8_tag 29 = .ok (.iconst 2, 1) := by decide +kernel
theorem dX8_tag_30 : decode cX8_tag 30 = .ok (.iaload, 1) := by decide +kernel
theorem dX8_tag_31 : decode cX8_tag 31 = .ok (.iconst 1, 1) := by decide +kernel
theorem dX8_tag_32 : decode cX8_tag 32 = .ok (.if_icmp .ne 6, 3) := by decide +kernel
theorem dX8_tag_35 : decode cX8_tag 35 = .ok (.bipush (-3), 2) := by decide +kernel
theorem dX8_tag_37 : decode cX8_tag 37 = .ok (.ireturn, 1) := by decide +kernel
theorem dX8_tag_38 : decode cX8_tag 38 = .ok (.aload_n 0, 1) := by decide +kernel
theorem dX8_tag_39 : decode cX8_tag 39 = .ok (.getfield 11, 3) := by decide +kernel
theorem dX8_tag_42 : decode cX8_tag 42 = .ok (.bipush 44, 2) := by decide +kernel
theorem dX8_tag_44 : decode cX8_tag 44 = .ok (.iload_n 1, 1) := by decide +kernel
theorem dX8_tag_45 : decode cX8_tag 45 = .ok (.iadd, 1) := by decide +kernel
theorem dX8_tag_46 : decode cX8_tag 46 = .ok (.iaload, 1) := by decide +kernel
theorem dX8_tag_47 : decode cX8_tag 47 = .ok (.istore_n 3, 1) := by decide +kernel
theorem dX8_tag_48 : decode cX8_tag 48 = .ok (.aload_n 0, 1) := by decide +kernel
theorem dX8_tag_49 : decode cX8_tag 49 = .ok (.getfield 11, 3) := by decide +kernel
theorem dX8_tag_52 : decode cX8_tag 52 = .ok (.bipush 44, 2) := by decide +kernel
theorem dX8_tag_54 : decode cX8_tag 54 = .ok (.iload_n 1, 1) := by decide +kernel
theorem dX8_tag_55 : decode cX8_tag 55 = .ok (.iadd, 1) := by decide +kernel
theorem dX8_tag_56 : decode cX8_tag 56 = .ok (.iload_n 2, 1) := by decide +kernel
theorem dX8_tag_57 : decode cX8_tag 57 = .ok (.iastore, 1) := by decide +kernel
theorem dX8_tag_58 : decode cX8_tag 58 = .ok (.aload_n 0, 1) := by decide +kernel
theorem dX8_tag_59 : decode cX8_tag 59 = .ok (.getfield 11, 3) := by decide +kernel
theorem dX8_tag_62 : decode cX8_tag 62 = .ok (.bipush 15, 2) := by decide +kernel
theorem dX8_tag_64 : decode cX8_tag 64 = .ok (.iconst 0, 1) := by decide +kernel
theorem dX8_tag_65 : decode cX8_tag 65 = .ok (.iastore, 1) := by decide +kernel
theorem dX8_tag_66 : decode cX8_tag 66 = .ok (.iload_n 3, 1) := by decide +kernel
theorem dX8_tag_67 : decode cX8_tag 67 = .ok (.ireturn, 1) := by decide +kernel
theorem dX8_root_0 : decode cX8_root 0 = .ok (.iload_n 1, 1) := by decide +kernel
theorem dX8_root_1 : decode cX8_root 1 = .ok (.i2l, 1) := by decide +kernel
theorem dX8_root_2 : decode cX8_root 2 = .ok (.lconst 0, 1) := by decide +kernel
theorem dX8_root_3 : decode cX8_root 3 = .ok (.ldc2_w 135, 3) := by decide +kernel
theorem dX8_root_6 : decode cX8_root 6 = .ok (.invokestatic 57, 3) := by decide +kernel
theorem dX8_root_9 : decode cX8_root 9 = .ok (.ifCond .eq 16, 3) := by decide +kernel
theorem dX8_root_12 : decode cX8_root 12 = .ok (.iload_n 2, 1) := by decide +kernel
theorem dX8_root_13 : decode cX8_root 13 = .ok (.iconst (-1), 1) := by decide +kernel
theorem dX8_root_14 : decode cX8_root 14 = .ok (.if_icmp .eq 13, 3) := by decide +kernel
theorem dX8_root_17 : decode cX8_root 17 = .ok (.aload_n 0, 1) := by decide +kernel
theorem dX8_root_18 : decode cX8_root 18 = .ok (.iload_n 2, 1) := by decide +kernel
theorem dX8_root_19 : decode cX8_root 19 = .ok (.invokevirtual 65, 3) := by decide +kernel
theorem dX8_root_22 : decode cX8_root 22 = .ok (.ifCond .ne 5, 3) := by decide +kernel
theorem dX8_root_25 : decode cX8_root 25 = .ok (.iconst (-1), 1) := by decide +kernel
theorem dX8_root_26 : decode cX8_root 26 = .ok (.ireturn, 1) := by decide +kernel
theorem dX8_root_27 : decode cX8_root 27 = .ok (.aload_n 0, 1) := by decide +kernel
theorem dX8_root_28 : decode cX8_root 28 = .ok (.getfield 11, 3) := by decide +kernel
theorem dX8_root_31 : decode cX8_root 31 = .ok (.iconst 2, 1) := by decide +kernel
theorem dX8_root_32 : decode cX8_root 32 = .ok (.iaload, 1) := by decide +kernel
theorem dX8_root_33 : decode cX8_root 33 = .ok (.iconst 1, 1) := by decide +kernel
theorem dX8_root_34 : decode cX8_root 34 = .ok (.if_icmp .ne 6, 3) := by decide +kernel
theorem dX8_root_37 : decode cX8_root 37 = .ok (.bipush (-3), 2) := by decide +kernel
theorem dX8_root_39 : decode cX8_root 39 = .ok (.ireturn, 1) := by decide +kernel
theorem dX8_root_40 : decode cX8_root 40 = .ok (.aload_n 0, 1) := by decide +kernel
theorem dX8_root_41 : decode cX8_root 41 = .ok (.getfield 11, 3) := by decide +kernel
theorem dX8_root_44 : decode cX8_root 44 = .ok (.bipush 16, 2) := by decide +kernel
theorem dX8_root_46 : decode cX8_root 46 = .ok (.iload_n 1, 1) := by decide +kernel
theorem dX8_root_47 : decode cX8_root 47 = .ok (.iadd, 1) := by decide +kernel
theorem dX8_root_48 : decode cX8_root 48 = .ok (.iaload, 1) := by decide +kernel
theorem dX8_root_49 : decode cX8_root 49 = .ok (.istore_n 3, 1) := by decide +kernel
theorem dX8_root_50 : decode cX8_root 50 = .ok (.aload_n 0, 1) := by decide +kernel
theorem dX8_root_51 : decode cX8_root 51 = .ok (.getfield 11, 3) := by decide +kernel
theorem dX8_root_54 : decode cX8_root 54 = .ok (.bipush 16, 2) := by decide +kernel
theorem dX8_root_56 : decode cX8_root 56 = .ok (.iload_n 1, 1) := by decide +kernel
theorem dX8_root_57 : decode cX8_root 57 = .ok (.iadd, 1) := by decide +kernel
theorem dX8_root_58 : decode cX8_root 58 = .ok (.iload_n 2, 1) := by decide +kernel
theorem dX8_root_59 : decode cX8_root 59 = .ok (.iconst (-1), 1) := by decide +kernel
theorem dX8_root_60 : decode cX8_root 60 = .ok (.if_icmp .ne 8, 3) := by decide +kernel
theorem dX8_root_63 : decode cX8_root 63 = .ok (.bipush (-5), 2) := by decide +kernel
theorem dX8_root_65 : decode cX8_root 65 = .ok (.goto 4, 3) := by decide +kernel
theorem dX8_root_68 : decode cX8_root 68 = .ok (.iload_n 2, 1) := by decide +kernel
theorem dX8_root_69 : decode cX8_root 69 = .ok (.iastore, 1) := by decide +kernel
theorem dX8_root_70 : decode cX8_root 70 = .ok (.aload_n 0, 1) := by decide +kernel
theorem dX8_root_71 : decode cX8_root 71 = .ok (.getfield 11, 3) := by decide +kernel
theorem dX8_root_74 : decode cX8_root 74 = .ok (.bipush 15, 2) := by decide +kernel
theorem dX8_root_76 : decode cX8_root 76 = .ok (.iconst 0, 1) := by decide +kernel
theorem dX8_root_77 : decode cX8_root 77 = .ok (.iastore, 1) := by decide +kernel
theorem dX8_root_78 : decode cX8_root 78 = .ok (.iload_n 3, 1) := by decide +kernel
theorem dX8_root_79 : decode cX8_root 79 = .ok (.ireturn, 1) := by decide +kernel
theorem dX8_pin_0 : decode cX8_pin 0 = .ok (.aload_n 0, 1) := by decide +kernel
theorem dX8_pin_1 : decode cX8_pin 1 = .ok (.iload_n 1, 1) := by decide +kernel
theorem dX8_pin_2 : decode cX8_pin 2 = .ok (.invokevirtual 65, 3) := by decide +kernel
theorem dX8_pin_5 : decode cX8_pin 5 = .ok (.ifCond .ne 5, 3) := by decide +kernel
theorem dX8_pin_8 : decode cX8_pin 8 = .ok (.iconst (-1), 1) := by decide +kernel
theorem dX8_pin_9 : decode cX8_pin 9 = .ok (.ireturn, 1) := by decide +kernel
theorem dX8_pin_10 : decode cX8_pin 10 = .ok (.aload_n 0, 1) := by decide +kernel
theorem dX8_pin_11 : decode cX8_pin 11 = .ok (.iload_n 1, 1) := by decide +kernel
theorem dX8_pin_12 : decode cX8_pin 12 = .ok (.invokevirtual 132, 3) := by decide +kernel
theorem dX8_pin_15 : decode cX8_pin 15 = .ok (.ifCond .lt 6, 3) := by decide +kernel
theorem dX8_pin_18 : decode cX8_pin 18 = .ok (.bipush (-3), 2) := by decide +kernel
theorem dX8_pin_20 : decode cX8_pin 20 = .ok (.ireturn, 1) := by decide +kernel
theorem dX8_pin_21 : decode cX8_pin 21 = .ok (.aload_n 0, 1) := by decide +kernel
theorem dX8_pin_22 : decode cX8_pin 22 = .ok (.getfield 11, 3) := by decide +kernel
theorem dX8_pin_25 : decode cX8_pin 25 = .ok (.bipush 14, 2) := by decide +kernel
theorem dX8_pin_27 : decode cX8_pin 27 = .ok (.iaload, 1) := by decide +kernel
theorem dX8_pin_28 : decode cX8_pin 28 = .ok (.iload_n 1, 1) := by decide +kernel
theorem dX8_pin_29 : decode cX8_pin 29 = .ok (.invokestatic 61, 3) := by decide +kernel
theorem dX8_pin_32 : decode cX8_pin 32 = .ok (.invokestatic 106, 3) := by decide +kernel
theorem dX8_pin_35 : decode cX8_pin 35 = .ok (.istore_n 3, 1) := by decide +kernel
theorem dX8_pin_36 : decode cX8_pin 36 = .ok (.aload_n 0, 1) := by decide +kernel
theorem dX8_pin_37 : decode cX8_pin 37 = .ok (.getfield 11, 3) := by decide +kernel
theorem dX8_pin_40 : decode cX8_pin 40 = .ok (.bipush 14, 2) := by decide +kernel
theorem dX8_pin_42 : decode cX8_pin 42 = .ok (.iload_n 2, 1) := by decide +kernel
theorem dX8_pin_43 : decode cX8_pin 43 = .ok (.ifCond .eq 17, 3) := by decide +kernel
theorem dX8_pin_46 : decode cX8_pin 46 = .ok (.aload_n 0, 1) := by decide +kernel
theorem dX8_pin_47 : decode cX8_pin 47 = .ok (.getfield 11, 3) := by decide +kernel
theorem dX8_pin_50 : decode cX8_pin 50 = .ok (.bipush 14, 2) := by decide +kernel
theorem dX8_pin_52 : decode cX8_pin 52 = .ok (.iaload, 1) := by decide +kernel
theorem dX8_pin_53 : decode cX8_pin 53 = .ok (.iconst 1, 1) := by decide +kernel
theorem dX8_pin_54 : decode cX8_pin 54 = .ok (.iload_n 1, 1) := by decide +kernel
theorem dX8_pin_55 : decode cX8_pin 55 = .ok (.ishl, 1) := by decide +kernel
theorem dX8_pin_56 : decode cX8_pin 56 = .ok (.ior, 1) := by decide +kernel
theorem dX8_pin_57 : decode cX8_pin 57 = .ok (.goto 16, 3) := by decide +kernel
theorem dX8_pin_60 : decode cX8_pin 60 = .ok (.aload_n 0, 1) := by decide +kernel
theorem dX8_pin_61 : decode cX8_pin 61 = .ok (.getfield 11, 3) := by decide +kernel
theorem dX8_pin_64 : decode cX8_pin 64 = .ok (.bipush 14, 2) := by decide +kernel
theorem dX8_pin_66 : decode cX8_pin 66 = .ok (.iaload, 1) := by decide +kernel
theorem dX8_pin_67 : decode cX8_pin 67 = .ok (.iconst 1, 1) := by decide +kernel
theorem dX8_pin_68 : decode cX8_pin 68 = .ok (.iload_n 1, 1) := by decide +kernel
theorem dX8_pin_69 : decode cX8_pin 69 = .ok (.ishl, 1) := by decide +kernel
theorem dX8_pin_70 : decode cX8_pin 70 = .ok (.iconst (-1), 1) := by decide +kernel
theorem dX8_pin_71 : decode cX8_pin 71 = .ok (.ixor, 1) := by decide +kernel
theorem dX8_pin_72 : decode cX8_pin 72 = .ok (.iand, 1) := by decide +kernel
theorem dX8_pin_73 : decode cX8_pin 73 = .ok (.iastore, 1) := by decide +kernel
theorem dX8_pin_74 : decode cX8_pin 74 = .ok (.iload_n 3, 1) := by decide +kernel
theorem dX8_pin_75 : decode cX8_pin 75 = .ok (.ireturn, 1) := by decide +kernel
theorem dX8_feed_0 : decode cX8_feed 0 = .ok (.iload_n 1, 1) := by decide +kernel
theorem dX8_feed_1 : decode cX8_feed 1 = .ok (.i2l, 1) := by decide +kernel
theorem dX8_feed_2 : decode cX8_feed 2 = .ok (.lconst 0, 1) := by decide +kernel
theorem dX8_feed_3 : decode cX8_feed 3 = .ok (.ldc2_w 137, 3) := by decide +kernel
theorem dX8_feed_6 : decode cX8_feed 6 = .ok (.invokestatic 57, 3) := by decide +kernel
theorem dX8_feed_9 : decode cX8_feed 9 = .ok (.ifCond .ne 6, 3) := by decide +kernel
theorem dX8_feed_12 : decode cX8_feed 12 = .ok (.bipush (-2), 2) := by decide +kernel
theorem dX8_feed_14 : decode cX8_feed 14 = .ok (.ireturn, 1) := by decide +kernel
theorem dX8_feed_15 : decode cX8_feed 15 = .ok (.aload_n 0, 1) := by decide +kernel
theorem dX8_feed_16 : decode cX8_feed 16 = .ok (.getfield 139, 3) := by decide +kernel
theorem dX8_feed_19 : decode cX8_feed 19 = .ok (.bipush 100, 2) := by decide +kernel
theorem dX8_feed_21 : decode cX8_feed 21 = .ok (.if_icmp .ne 6, 3) := by decide +kernel
theorem dX8_feed_24 : decode cX8_feed 24 = .ok (.bipush (-4), 2) := by decide +kernel
theorem dX8_feed_26 : decode cX8_feed 26 = .ok (.ireturn, 1) := by decide +kernel
theorem dX8_feed_27 : decode cX8_feed 27 = .ok (.aload_n 0, 1) := by decide +kernel
theorem dX8_feed_28 : decode cX8_feed 28 = .ok (.getfield 21, 3) := by decide +kernel
theorem dX8_feed_31 : decode cX8_feed 31 = .ok (.aload_n 0, 1) := by decide +kernel
theorem dX8_feed_32 : decode cX8_feed 32 = .ok (.getfield 139, 3) := by decide +kernel
theorem dX8_feed_35 : decode cX8_feed 35 = .ok (.iload_n 1, 1) := by decide +kernel
theorem dX8_feed_36 : decode cX8_feed 36 = .ok (.iastore, 1) := by decide +kernel
theorem dX8_feed_37 : decode cX8_feed 37 = .ok (.aload_n 0, 1) := by decide +kernel
theorem dX8_feed_38 : decode cX8_feed 38 = .ok (.dup, 1) := by decide +kernel
theorem dX8_feed_39 : decode cX8_feed 39 = .ok (.getfield 139, 3) := by decide +kernel
theorem dX8_feed_42 : decode cX8_feed 42 = .ok (.iconst 1, 1) := by decide +kernel
theorem dX8_feed_43 : decode cX8_feed 43 = .ok (.iadd, 1) := by decide +kernel
theorem dX8_feed_44 : decode cX8_feed 44 = .ok (.putfield 139, 3) := by decide +kernel
theorem dX8_feed_47 : decode cX8_feed 47 = .ok (.aload_n 0, 1) := by decide +kernel
theorem dX8_feed_48 : decode cX8_feed 48 = .ok (.getfield 139, 3) := by decide +kernel
theorem dX8_feed_51 : decode cX8_feed 51 = .ok (.ireturn, 1) := by decide +kernel
theorem dX8_isNew_0 : decode cX8_isNew 0 = .ok (.aload_n 0, 1) := by decide +kernel
theorem dX8_isNew_1 : decode cX8_isNew 1 = .ok (.getfield 33, 3) := by decide +kernel
theorem dX8_isNew_4 : decode cX8_isNew 4 = .ok (.aload_n 0, 1) := by decide +kernel
theorem dX8_isNew_5 : decode cX8_isNew 5 = .ok (.getfield 143, 3) := by decide +kernel
theorem dX8_isNew_8 : decode cX8_isNew 8 = .ok (.iload_n 1, 1) := by decide +kernel
theorem dX8_isNew_9 : decode cX8_isNew 9 = .ok (.iastore, 1) := by decide +kernel
theorem dX8_isNew_10 : decode cX8_isNew 10 = .ok (.aload_n 0, 1) := by decide +kernel
theorem dX8_isNew_11 : decode cX8_isNew 11 = .ok (.getfield 36, 3) := by decide +kernel
theorem dX8_isNew_14 : decode cX8_isNew 14 = .ok (.aload_n 0, 1) := by decide +kernel
theorem dX8_isNew_15 : decode cX8_isNew 15 = .ok (.getfield 143, 3) := by decide +kernel
theorem dX8_isNew_18 : decode cX8_isNew 18 = .ok (.iload_n 2, 1) := by decide +kernel
theorem dX8_isNew_19 : decode cX8_isNew 19 = .ok (.iastore, 1) := by decide +kernel
theorem dX8_isNew_20 : decode cX8_isNew 20 = .ok (.aload_n 0, 1) := by decide +kernel
theorem dX8_isNew_21 : decode cX8_isNew 21 = .ok (.getfield 39, 3) := by decide +kernel
theorem dX8_isNew_24 : decode cX8_isNew 24 = .ok (.aload_n 0, 1) := by decide +kernel
theorem dX8_isNew_25 : decode cX8_isNew 25 = .ok (.getfield 143, 3) := by decide +kernel
theorem dX8_isNew_28 : decode cX8_isNew 28 = .ok (.iconst 0, 1) := by decide +kernel
theorem dX8_isNew_29 : decode cX8_isNew 29 = .ok (.iastore, 1) := by decide +kernel
theorem dX8_isNew_30 : decode cX8_isNew 30 = .ok (.aload_n 0, 1) := by decide +kernel
theorem dX8_isNew_31 : decode cX8_isNew 31 = .ok (.dup, 1) := by decide +kernel
theorem dX8_isNew_32 : decode cX8_isNew 32 = .ok (.getfield 143, 3) := by decide +kernel
theorem dX8_isNew_35 : decode cX8_isNew 35 = .ok (.iconst 1, 1) := by decide +kernel
theorem dX8_isNew_36 : decode cX8_isNew 36 = .ok (.iadd, 1) := by decide +kernel
theorem dX8_isNew_37 : decode cX8_isNew 37 = .ok (.putfield 143, 3) := by decide +kernel
theorem dX8_isNew_40 : decode cX8_isNew 40 = .ok (.aload_n 0, 1) := by decide +kernel
theorem dX8_isNew_41 : decode cX8_isNew 41 = .ok (.getfield 143, 3) := by decide +kernel
theorem dX8_isNew_44 : decode cX8_isNew 44 = .ok (.iconst 1, 1) := by decide +kernel
theorem dX8_isNew_45 : decode cX8_isNew 45 = .ok (.isub, 1) := by decide +kernel
theorem dX8_isNew_46 : decode cX8_isNew 46 = .ok (.ireturn, 1) := by decide +kernel
theorem dX8_gives_0 : decode cX8_gives 0 = .ok (.aload_n 0, 1) := by decide +kernel
theorem dX8_gives_1 : decode cX8_gives 1 = .ok (.getfield 146, 3) := by decide +kernel
theorem dX8_gives_4 : decode cX8_gives 4 = .ok (.ifCond .ne 14, 3) := by decide +kernel
theorem dX8_gives_7 : decode cX8_gives 7 = .ok (.aload_n 0, 1) := by decide +kernel
theorem dX8_gives_8 : decode cX8_gives 8 = .ok (.iload_n 1, 1) := by decide +kernel
theorem dX8_gives_9 : decode cX8_gives 9 = .ok (.putfield 149, 3) := by decide +kernel
theorem dX8_gives_12 : decode cX8_gives 12 = .ok (.aload_n 0, 1) := by decide +kernel
theorem dX8_gives_13 : decode cX8_gives 13 = .ok (.iconst 1, 1) := by decide +kernel
theorem dX8_gives_14 : decode cX8_gives 14 = .ok (.putfield 152, 3) := by decide +kernel
theorem dX8_gives_17 : decode cX8_gives 17 = .ok (.return_, 1) := by decide +kernel
theorem dX8_gives_18 : decode cX8_gives 18 = .ok (.aload_n 0, 1) := by decide +kernel
theorem dX8_gives_19 : decode cX8_gives 19 = .ok (.getfield 24, 3) := by decide +kernel
theorem dX8_gives_22 : decode cX8_gives 22 = .ok (.aload_n 0, 1) := by decide +kernel
theorem dX8_gives_23 : decode cX8_gives 23 = .ok (.getfield 146, 3) := by decide +kernel
theorem dX8_gives_26 : decode cX8_gives 26 = .ok (.iconst 1, 1) := by decide +kernel
theorem dX8_gives_27 : decode cX8_gives 27 = .ok (.isub, 1) := by decide +kernel
theorem dX8_gives_28 : decode cX8_gives 28 = .ok (.iaload, 1) := by decide +kernel
theorem dX8_gives_29 : decode cX8_gives 29 = .ok (.istore_n 2, 1) := by decide +kernel
theorem dX8_gives_30 : decode cX8_gives 30 = .ok (.aload_n 0, 1) := by decide +kernel
theorem dX8_gives_31 : decode cX8_gives 31 = .ok (.getfield 42, 3) := by decide +kernel
theorem dX8_gives_34 : decode cX8_gives 34 = .ok (.bipush 6, 2) := by decide +kernel
theorem dX8_gives_36 : decode cX8_gives 36 = .ok (.iload_n 2, 1) := by decide +kernel
theorem dX8_gives_37 : decode cX8_gives 37 = .ok (.imul, 1) := by decide +kernel
theorem dX8_gives_38 : decode cX8_gives 38 = .ok (.aload_n 0, 1) := by decide +kernel
theorem dX8_gives_39 : decode cX8_gives 39 = .ok (.getfield 39, 3) := by decide +kernel
theorem dX8_gives_42 : decode cX8_gives 42 = .ok (.iload_n 2, 1) := by decide +kernel
theorem dX8_gives_43 : decode cX8_gives 43 = .ok (.iaload, 1) := by decide +kernel
theorem dX8_gives_44 : decode cX8_gives 44 = .ok (.iadd, 1) := by decide +kernel
theorem dX8_gives_45 : decode cX8_gives 45 = .ok (.iload_n 1, 1) := by decide +kernel
theorem dX8_gives_46 : decode cX8_gives 46 = .ok (.iastore, 1) := by decide +kernel
theorem dX8_gives_47 : decode cX8_gives 47 = .ok (.aload_n 0, 1) := by decide +kernel
theorem dX8_gives_48 : decode cX8_gives 48 = .ok (.getfield 39, 3) := by decide +kernel
theorem dX8_gives_51 : decode cX8_gives 51 = .ok (.iload_n 2, 1) := by decide +kernel
theorem dX8_gives_52 : decode cX8_gives 52 = .ok (.dup2, 1) := by decide +kernel
theorem dX8_gives_53 : decode cX8_gives 53 = .ok (.iaload, 1) := by decide +kernel
theorem dX8_gives_54 : decode cX8_gives 54 = .ok (.iconst 1, 1) := by decide +kernel
theorem dX8_gives_55 : decode cX8_gives 55 = .ok (.iadd, 1) := by decide +kernel
theorem dX8_gives_56 : decode cX8_gives 56 = .ok (.iastore, 1) := by decide +kernel
theorem dX8_gives_57 : decode cX8_gives 57 = .ok (.aload_n 0, 1) := by decide +kernel
theorem dX8_gives_58 : decode cX8_gives 58 = .ok (.getfield 30, 3) := by decide +kernel
theorem dX8_gives_61 : decode cX8_gives 61 = .ok (.aload_n 0, 1) := by decide +kernel
theorem dX8_gives_62 : decode cX8_gives 62 = .ok (.getfield 146, 3) := by decide +kernel
theorem dX8_gives_65 : decode cX8_gives 65 = .ok (.iconst 1, 1) := by decide +kernel
theorem dX8_gives_66 : decode cX8_gives 66 = .ok (.isub, 1) := by decide +kernel
theorem dX8_gives_67 : decode cX8_gives 67 = .ok (.iconst 1, 1) := by decide +kernel
theorem dX8_gives_68 : decode cX8_gives 68 = .ok (.iastore, 1) := by decide +kernel
theorem dX8_gives_69 : decode cX8_gives 69 = .ok (.return_, 1) := by decide +kernel
theorem dX8_begins_0 : decode cX8_begins 0 = .ok (.iload_n 1, 1) := by decide +kernel
theorem dX8_begins_1 : decode cX8_begins 1 = .ok (.i2l, 1) := by decide +kernel
theorem dX8_begins_2 : decode cX8_begins 2 = .ok (.ldc2_w 156, 3) := by decide +kernel
theorem dX8_begins_5 : decode cX8_begins 5 = .ok (.ldc2_w 158, 3) := by decide +kernel
theorem dX8_begins_8 : decode cX8_begins 8 = .ok (.invokestatic 57, 3) := by decide +kernel
theorem dX8_begins_11 : decode cX8_begins 11 = .ok (.ifCond .eq 21, 3) := by decide +kernel
theorem dX8_begins_14 : decode cX8_begins 14 = .ok (.aload_n 0, 1) := by decide +kernel
theorem dX8_begins_15 : decode cX8_begins 15 = .ok (.bipush 100, 2) := by decide +kernel
theorem dX8_begins_17 : decode cX8_begins 17 = .ok (.aload_n 0, 1) := by decide +kernel
theorem dX8_begins_18 : decode cX8_begins 18 = .ok (.iconst 0, 1) := by decide +kernel
theorem dX8_begins_19 : decode cX8_begins 19 = .ok (.iload_n 1, 1) := by decide +kernel
theorem dX8_begins_20 : decode cX8_begins 20 = .ok (.bipush 48, 2) := by decide +kernel
theorem dX8_begins_22 : decode cX8_begins 22 = .ok (.isub, 1) := by decide +kernel
theorem dX8_begins_23 : decode cX8_begins 23 = .ok (.invokevirtual 160, 3) := by decide +kernel
theorem dX8_begins_26 : decode cX8_begins 26 = .ok (.iadd, 1) := by decide +kernel
theorem dX8_begins_27 : decode cX8_begins 27 = .ok (.invokevirtual 163, 3) := by decide +kernel
theorem dX8_begins_30 : decode cX8_begins 30 = .ok (.iconst 1, 1) := by decide +kernel
theorem dX8_begins_31 : decode cX8_begins 31 = .ok (.ireturn, 1) := by decide +kernel
theorem dX8_begins_32 : decode cX8_begins 32 = .ok (.iload_n 1, 1) := by decide +kernel
theorem dX8_begins_33 : decode cX8_begins 33 = .ok (.i2l, 1) := by decide +kernel
theorem dX8_begins_34 : decode cX8_begins 34 = .ok (.ldc2_w 167, 3) := by decide +kernel
theorem dX8_begins_37 : decode cX8_begins 37 = .ok (.ldc2_w 169, 3) := by decide +kernel
theorem dX8_begins_40 : decode cX8_begins 40 = .ok (.invokestatic 57, 3) := by decide +kernel
theorem dX8_begins_43 : decode cX8_begins 43 = .ok (.ifCond .eq 26, 3) := by decide +kernel
theorem dX8_begins_46 : decode cX8_begins 46 = .ok (.aload_n 0, 1) := by decide +kernel
theorem dX8_begins_47 : decode cX8_begins 47 = .ok (.iload_n 1, 1) := by decide +kernel
theorem dX8_begins_48 : decode cX8_begins 48 = .ok (.bipush 97, 2) := by decide +kernel
theorem dX8_begins_50 : decode cX8_begins 50 = .ok (.isub, 1) := by decide +kernel
theorem dX8_begins_51 : decode cX8_begins 51 = .ok (.invokevirtual 65, 3) := by decide +kernel
theorem dX8_begins_54 : decode cX8_begins 54 = .ok (.istore_n 2, 1) := by decide +kernel
theorem dX8_begins_55 : decode cX8_begins 55 = .ok (.iload_n 2, 1) := by decide +kernel
theorem dX8_begins_56 : decode cX8_begins 56 = .ok (.ifCond .eq 11, 3) := by decide +kernel
theorem dX8_begins_59 : decode cX8_begins 59 = .ok (.aload_n 0, 1) := by decide +kernel
theorem dX8_begins_60 : decode cX8_begins 60 = .ok (.iload_n 1, 1) := by decide +kernel
theorem dX8_begins_61 : decode cX8_begins 61 = .ok (.bipush 97, 2) := by decide +kernel
theorem dX8_begins_63 : decode cX8_begins 63 = .ok (.isub, 1) := by decide +kernel
theorem dX8_begins_64 : decode cX8_begins 64 = .ok (.invokevirtual 163, 3) := by decide +kernel
theorem dX8_begins_67 : decode cX8_begins 67 = .ok (.iload_n 2, 1) := by decide +kernel
theorem dX8_begins_68 : decode cX8_begins 68 = .ok (.ireturn, 1) := by decide +kernel
theorem dX8_begins_69 : decode cX8_begins 69 = .ok (.iload_n 1, 1) := by decide +kernel
theorem dX8_begins_70 : decode cX8_begins 70 = .ok (.i2l, 1) := by decide +kernel
theorem dX8_begins_71 : decode cX8_begins 71 = .ok (.ldc2_w 171, 3) := by decide +kernel
theorem dX8_begins_74 : decode cX8_begins 74 = .ok (.ldc2_w 173, 3) := by decide +kernel
theorem dX8_begins_77 : decode cX8_begins 77 = .ok (.invokestatic 57, 3) := by decide +kernel
theorem dX8_begins_80 : decode cX8_begins 80 = .ok (.ifCond .eq 42, 3) := by decide +kernel
theorem dX8_begins_83 : decode cX8_begins 83 = .ok (.aload_n 0, 1) := by decide +kernel
theorem dX8_begins_84 : decode cX8_begins 84 = .ok (.getfield 146, 3) := by decide +kernel
theorem dX8_begins_87 : decode cX8_begins 87 = .ok (.iconst 1, 1) := by decide +kernel
theorem dX8_begins_88 : decode cX8_begins 88 = .ok (.isub, 1) := by decide +kernel
theorem dX8_begins_89 : decode cX8_begins 89 = .ok (.iload_n 1, 1) := by decide +kernel
theorem dX8_begins_90 : decode cX8_begins 90 = .ok (.bipush 65, 2) := by decide +kernel
theorem dX8_begins_92 : decode cX8_begins 92 = .ok (.isub, 1) := by decide +kernel
theorem dX8_begins_93 : decode cX8_begins 93 = .ok (.isub, 1) := by decide +kernel
theorem dX8_begins_94 : decode cX8_begins 94 = .ok (.istore_n 2, 1) := by decide +kernel
theorem dX8_begins_95 : decode cX8_begins 95 = .ok (.iload_n 2, 1) := by decide +kernel
theorem dX8_begins_96 : decode cX8_begins 96 = .ok (.ifCond .lt 16, 3) := by decide +kernel
theorem dX8_begins_99 : decode cX8_begins 99 = .ok (.aload_n 0, 1) := by decide +kernel
theorem dX8_begins_100 : decode cX8_begins 100 = .ok (.bipush 100, 2) := by decide +kernel
theorem dX8_begins_102 : decode cX8_begins 102 = .ok (.aload_n 0, 1) := by decide +kernel
theorem dX8_begins_103 : decode cX8_begins 103 = .ok (.getfield 24, 3) := by decide +kernel
theorem dX8_begins_106 : decode cX8_begins 106 = .ok (.iload_n 2, 1) := by decide +kernel
theorem dX8_begins_107 : decode cX8_begins 107 = .ok (.iaload, 1) := by decide +kernel
theorem dX8_begins_108 : decode cX8_begins 108 = .ok (.iadd, 1) := by decide +kernel
theorem dX8_begins_109 : decode cX8_begins 109 = .ok (.invokevirtual 163, 3) := by decide +kernel
theorem dX8_begins_112 : decode cX8_begins 112 = .ok (.iload_n 2, 1) := by decide +kernel
theorem dX8_begins_113 : decode cX8_begins 113 = .ok (.ifCond .lt 7, 3) := by decide +kernel
theorem dX8_begins_116 : decode cX8_begins 116 = .ok (.iconst 1, 1) := by decide +kernel
theorem dX8_begins_117 : decode cX8_begins 117 = .ok (.goto 4, 3) := by decide +kernel
theorem dX8_begins_120 : decode cX8_begins 120 = .ok (.iconst 0, 1) := by decide +kernel
theorem dX8_begins_121 : decode cX8_begins 121 = .ok (.ireturn, 1) := by decide +kernel
theorem dX8_begins_122 : decode cX8_begins 122 = .ok (.iload_n 1, 1) := by decide +kernel
theorem dX8_begins_123 : decode cX8_begins 123 = .ok (.bipush 126, 2) := by decide +kernel
theorem dX8_begins_125 : decode cX8_begins 125 = .ok (.if_icmp .ne 11, 3) := by decide +kernel
theorem dX8_begins_128 : decode cX8_begins 128 = .ok (.aload_n 0, 1) := by decide +kernel
theorem dX8_begins_129 : decode cX8_begins 129 = .ok (.bipush (-5), 2) := by decide +kernel
theorem dX8_begins_131 : decode cX8_begins 131 = .ok (.invokevirtual 163, 3) := by decide +kernel
theorem dX8_begins_134 : decode cX8_begins 134 = .ok (.iconst 1, 1) := by decide +kernel
theorem dX8_begins_135 : decode cX8_begins 135 = .ok (.ireturn, 1) := by decide +kernel
theorem dX8_begins_136 : decode cX8_begins 136 = .ok (.iload_n 1, 1) := by decide +kernel
theorem dX8_begins_137 : decode cX8_begins 137 = .ok (.bipush 40, 2) := by decide +kernel
theorem dX8_begins_139 : decode cX8_begins 139 = .ok (.if_icmp .eq 15, 3) := by decide +kernel
theorem dX8_begins_142 : decode cX8_begins 142 = .ok (.iload_n 1, 1) := by decide +kernel
theorem dX8_begins_143 : decode cX8_begins 143 = .ok (.bipush 91, 2) := by decide +kernel
theorem dX8_begins_145 : decode cX8_begins 145 = .ok (.if_icmp .eq 9, 3) := by decide +kernel
theorem dX8_begins_148 : decode cX8_begins 148 = .ok (.iload_n 1, 1) := by decide +kernel
theorem dX8_begins_149 : decode cX8_begins 149 = .ok (.bipush 60, 2) := by decide +kernel
theorem dX8_begins_151 : decode cX8_begins 151 = .ok (.if_icmp .ne 12, 3) := by decide +kernel
theorem dX8_begins_154 : decode cX8_begins 154 = .ok (.aload_n 0, 1) := by decide +kernel
theorem dX8_begins_155 : decode cX8_begins 155 = .ok (.getfield 146, 3) := by decide +kernel
theorem dX8_begins_158 : decode cX8_begins 158 = .ok (.bipush 6, 2) := by decide +kernel
theorem dX8_begins_160 : decode cX8_begins 160 = .ok (.if_icmp .ne 5, 3) := by decide +kernel
theorem dX8_begins_163 : decode cX8_begins 163 = .ok (.iconst 0, 1) := by decide +kernel
theorem dX8_begins_164 : decode cX8_begins 164 = .ok (.ireturn, 1) := by decide +kernel
theorem dX8_begins_165 : decode cX8_begins 165 = .ok (.aload_n 0, 1) := by decide +kernel
theorem dX8_begins_166 : decode cX8_begins 166 = .ok (.getfield 24, 3) := by decide +kernel
theorem dX8_begins_169 : decode cX8_begins 169 = .ok (.aload_n 0, 1) := by decide +kernel
theorem dX8_begins_170 : decode cX8_begins 170 = .ok (.getfield 146, 3) := by decide +kernel
theorem dX8_begins_173 : decode cX8_begins 173 = .ok (.aload_n 0, 1) := by decide +kernel
theorem dX8_begins_174 : decode cX8_begins 174 = .ok (.iload_n 1, 1) := by decide +kernel
theorem dX8_begins_175 : decode cX8_begins 175 = .ok (.bipush 40, 2) := by decide +kernel
theorem dX8_begins_177 : decode cX8_begins 177 = .ok (.if_icmp .ne 7, 3) := by decide +kernel
theorem dX8_begins_180 : decode cX8_begins 180 = .ok (.iconst 1, 1) := by decide +kernel
theorem dX8_begins_181 : decode cX8_begins 181 = .ok (.goto 14, 3) := by decide +kernel
theorem dX8_begins_184 : decode cX8_begins 184 = .ok (.iload_n 1, 1) := by decide +kernel
theorem dX8_begins_185 : decode cX8_begins 185 = .ok (.bipush 91, 2) := by decide +kernel
theorem dX8_begins_187 : decode cX8_begins 187 = .ok (.if_icmp .ne 7, 3) := by decide +kernel
theorem dX8_begins_190 : decode cX8_begins 190 = .ok (.iconst 2, 1) := by decide +kernel
theorem dX8_begins_191 : decode cX8_begins 191 = .ok (.goto 4, 3) := by decide +kernel
theorem dX8_begins_194 : decode cX8_begins 194 = .ok (.iconst 3, 1) := by decide +kernel
theorem dX8_begins_195 : decode cX8_begins 195 = .ok (.iconst 0, 1) := by decide +kernel
theorem dX8_begins_196 : decode cX8_begins 196 = .ok (.invokevirtual 160, 3) := by decide +kernel
theorem dX8_begins_199 : decode cX8_begins 199 = .ok (.iastore, 1) := by decide +kernel
theorem dX8_begins_200 : decode cX8_begins 200 = .ok (.aload_n 0, 1) := by decide +kernel
theorem dX8_begins_201 : decode cX8_begins 201 = .ok (.getfield 27, 3) := by decide +kernel
theorem dX8_begins_204 : decode cX8_begins 204 = .ok (.aload_n 0, 1) := by decide +kernel
theorem dX8_begins_205 : decode cX8_begins 205 = .ok (.getfield 146, 3) := by decide +kernel
theorem dX8_begins_208 : decode cX8_begins 208 = .ok (.iload_n 1, 1) := by decide +kernel
theorem dX8_begins_209 : decode cX8_begins 209 = .ok (.iastore, 1) := by decide +kernel
theorem dX8_begins_210 : decode cX8_begins 210 = .ok (.aload_n 0, 1) := by decide +kernel
theorem dX8_begins_211 : decode cX8_begins 211 = .ok (.getfield 30, 3) := by decide +kernel
theorem dX8_begins_214 : decode cX8_begins 214 = .ok (.aload_n 0, 1) := by decide +kernel
theorem dX8_begins_215 : decode cX8_begins 215 = .ok (.getfield 146, 3) := by decide +kernel
theorem dX8_begins_218 : decode cX8_begins 218 = .ok (.iconst 0, 1) := by decide +kernel
theorem dX8_begins_219 : decode cX8_begins 219 = .ok (.iastore, 1) := by decide +kernel
theorem dX8_begins_220 : decode cX8_begins 220 = .ok (.aload_n 0, 1) := by decide +kernel
theorem dX8_begins_221 : decode cX8_begins 221 = .ok (.dup, 1) := by decide +kernel
theorem dX8_begins_222 : decode cX8_begins 222 = .ok (.getfield 146, 3) := by decide +kernel
theorem dX8_begins_225 : decode cX8_begins 225 = .ok (.iconst 1, 1) := by decide +kernel
theorem dX8_begins_226 : decode cX8_begins 226 = .ok (.iadd, 1) := by decide +kernel
theorem dX8_begins_227 : decode cX8_begins 227 = .ok (.putfield 146, 3) := by decide +kernel
theorem dX8_begins_230 : decode cX8_begins 230 = .ok (.iconst 1, 1) := by decide +kernel
theorem dX8_begins_231 : decode cX8_begins 231 = .ok (.ireturn, 1) := by decide +kernel
theorem dX8_shuts_0 : decode cX8_shuts 0 = .ok (.aload_n 0, 1) := by decide +kernel
theorem dX8_shuts_1 : decode cX8_shuts 1 = .ok (.dup, 1) := by decide +kernel
theorem dX8_shuts_2 : decode cX8_shuts 2 = .ok (.getfield 146, 3) := by decide +kernel
theorem dX8_shuts_5 : decode cX8_shuts 5 = .ok (.iconst 1, 1) := by decide +kernel
theorem dX8_shuts_6 : decode cX8_shuts 6 = .ok (.isub, 1) := by decide +kernel
theorem dX8_shuts_7 : decode cX8_shuts 7 = .ok (.putfield 146, 3) := by decide +kernel
theorem dX8_shuts_10 : decode cX8_shuts 10 = .ok (.aload_n 0, 1) := by decide +kernel
theorem dX8_shuts_11 : decode cX8_shuts 11 = .ok (.bipush 100, 2) := by decide +kernel
theorem dX8_shuts_13 : decode cX8_shuts 13 = .ok (.aload_n 0, 1) := by decide +kernel
theorem dX8_shuts_14 : decode cX8_shuts 14 = .ok (.getfield 24, 3) := by decide +kernel
theorem dX8_shuts_17 : decode cX8_shuts 17 = .ok (.aload_n 0, 1) := by decide +kernel
theorem dX8_shuts_18 : decode cX8_shuts 18 = .ok (.getfield 146, 3) := by decide +kernel
theorem dX8_shuts_21 : decode cX8_shuts 21 = .ok (.iaload, 1) := by decide +kernel
theorem dX8_shuts_22 : decode cX8_shuts 22 = .ok (.iadd, 1) := by decide +kernel
theorem dX8_shuts_23 : decode cX8_shuts 23 = .ok (.invokevirtual 163, 3) := by decide +kernel
theorem dX8_shuts_26 : decode cX8_shuts 26 = .ok (.return_, 1) := by decide +kernel
theorem dX8_takes_0 : decode cX8_takes 0 = .ok (.aload_n 0, 1) := by decide +kernel
theorem dX8_takes_1 : decode cX8_takes 1 = .ok (.getfield 152, 3) := by decide +kernel
theorem dX8_takes_4 : decode cX8_takes 4 = .ok (.ifCond .eq 5, 3) := by decide +kernel
theorem dX8_takes_7 : decode cX8_takes 7 = .ok (.iconst 0, 1) := by decide +kernel
theorem dX8_takes_8 : decode cX8_takes 8 = .ok (.ireturn, 1) := by decide +kernel
theorem dX8_takes_9 : decode cX8_takes 9 = .ok (.aload_n 0, 1) := by decide +kernel
theorem dX8_takes_10 : decode cX8_takes 10 = .ok (.getfield 146, 3) := by decide +kernel
theorem dX8_takes_13 : decode cX8_takes 13 = .ok (.ifCond .ne 9, 3) := by decide +kernel
theorem dX8_takes_16 : decode cX8_takes 16 = .ok (.aload_n 0, 1) := by decide +kernel
theorem dX8_takes_17 : decode cX8_takes 17 = .ok (.iload_n 1, 1) := by decide +kernel
theorem dX8_takes_18 : decode cX8_takes 18 = .ok (.invokevirtual 175, 3) := by decide +kernel
theorem dX8_takes_21 : decode cX8_takes 21 = .ok (.ireturn, 1) := by decide +kernel
theorem dX8_takes_22 : decode cX8_takes 22 = .ok (.aload_n 0, 1) := by decide +kernel
theorem dX8_takes_23 : decode cX8_takes 23 = .ok (.getfield 27, 3) := by decide +kernel
theorem dX8_takes_26 : decode cX8_takes 26 = .ok (.aload_n 0, 1) := by decide +kernel
theorem dX8_takes_27 : decode cX8_takes 27 = .ok (.getfield 146, 3) := by decide +kernel
theorem dX8_takes_30 : decode cX8_takes 30 = .ok (.iconst 1, 1) := by decide +kernel
theorem dX8_takes_31 : decode cX8_takes 31 = .ok (.isub, 1) := by decide +kernel
theorem dX8_takes_32 : decode cX8_takes 32 = .ok (.iaload, 1) := by decide +kernel
theorem dX8_takes_33 : decode cX8_takes 33 = .ok (.istore_n 2, 1) := by decide +kernel
theorem dX8_takes_34 : decode cX8_takes 34 = .ok (.aload_n 0, 1) := by decide +kernel
theorem dX8_takes_35 : decode cX8_takes 35 = .ok (.getfield 30, 3) := by decide +kernel
theorem dX8_takes_38 : decode cX8_takes 38 = .ok (.aload_n 0, 1) := by decide +kernel
theorem dX8_takes_39 : decode cX8_takes 39 = .ok (.getfield 146, 3) := by decide +kernel
theorem dX8_takes_42 : decode cX8_takes 42 = .ok (.iconst 1, 1) := by decide +kernel
theorem dX8_takes_43 : decode cX8_takes 43 = .ok (.isub, 1) := by decide +kernel
theorem dX8_takes_44 : decode cX8_takes 44 = .ok (.iaload, 1) := by decide +kernel
theorem dX8_takes_45 : decode cX8_takes 45 = .ok (.istore_n 3, 1) := by decide +kernel
theorem dX8_takes_46 : decode cX8_takes 46 = .ok (.aload_n 0, 1) := by decide +kernel
theorem dX8_takes_47 : decode cX8_takes 47 = .ok (.getfield 39, 3) := by decide +kernel
theorem dX8_takes_50 : decode cX8_takes 50 = .ok (.aload_n 0, 1) := by decide +kernel
theorem dX8_takes_51 : decode cX8_takes 51 = .ok (.getfield 24, 3) := by decide +kernel
theorem dX8_takes_54 : decode cX8_takes 54 = .ok (.aload_n 0, 1) := by decide +kernel
theorem dX8_takes_55 : decode cX8_takes 55 = .ok (.getfield 146, 3) := by decide +kernel
theorem dX8_takes_58 : decode cX8_takes 58 = .ok (.iconst 1, 1) := by decide +kernel
theorem dX8_takes_59 : decode cX8_takes 59 = .ok (.isub, 1) := by decide +kernel
theorem dX8_takes_60 : decode cX8_takes 60 = .ok (.iaload, 1) := by decide +kernel
theorem dX8_takes_61 : decode cX8_takes 61 = .ok (.iaload, 1) := by decide +kernel
theorem dX8_takes_62 : decode cX8_takes 62 = .ok (.istore 4, 2) := by decide +kernel
theorem dX8_takes_64 : decode cX8_takes 64 = .ok (.iload_n 3, 1) := by decide +kernel
theorem dX8_takes_65 : decode cX8_takes 65 = .ok (.iconst 1, 1) := by decide +kernel
theorem dX8_takes_66 : decode cX8_takes 66 = .ok (.if_icmp .eq 31, 3) := by decide +kernel
theorem dX8_takes_69 : decode cX8_takes 69 = .ok (.iload_n 3, 1) := by decide +kernel
theorem dX8_takes_70 : decode cX8_takes 70 = .ok (.ifCond .ne 21, 3) := by decide +kernel
theorem dX8_takes_73 : decode cX8_takes 73 = .ok (.iload_n 2, 1) := by decide +kernel
theorem dX8_takes_74 : decode cX8_takes 74 = .ok (.bipush 91, 2) := by decide +kernel
theorem dX8_takes_76 : decode cX8_takes 76 = .ok (.if_icmp .ne 15, 3) := by decide +kernel
theorem dX8_takes_79 : decode cX8_takes 79 = .ok (.iload_n 1, 1) := by decide +kernel
theorem dX8_takes_80 : decode cX8_takes 80 = .ok (.bipush 93, 2) := by decide +kernel
theorem dX8_takes_82 : decode cX8_takes 82 = .ok (.if_icmp .ne 9, 3) := by decide +kernel
theorem dX8_takes_85 : decode cX8_takes 85 = .ok (.aload_n 0, 1) := by decide +kernel
theorem dX8_takes_86 : decode cX8_takes 86 = .ok (.invokevirtual 178, 3) := by decide +kernel
theorem dX8_takes_89 : decode cX8_takes 89 = .ok (.iconst 1, 1) := by decide +kernel
theorem dX8_takes_90 : decode cX8_takes 90 = .ok (.ireturn, 1) := by decide +kernel
theorem dX8_takes_91 : decode cX8_takes 91 = .ok (.aload_n 0, 1) := by decide +kernel
theorem dX8_takes_92 : decode cX8_takes 92 = .ok (.iload_n 1, 1) := by decide +kernel
theorem dX8_takes_93 : decode cX8_takes 93 = .ok (.invokevirtual 175, 3) := by decide +kernel
theorem dX8_takes_96 : decode cX8_takes 96 = .ok (.ireturn, 1) := by decide +kernel
theorem dX8_takes_97 : decode cX8_takes 97 = .ok (.iload_n 2, 1) := by decide +kernel
theorem dX8_takes_98 : decode cX8_takes 98 = .ok (.bipush 40, 2) := by decide +kernel
theorem dX8_takes_100 : decode cX8_takes 100 = .ok (.if_icmp .ne 15, 3) := by decide +kernel
theorem dX8_takes_103 : decode cX8_takes 103 = .ok (.iload 4, 2) := by decide +kernel
theorem dX8_takes_105 : decode cX8_takes 105 = .ok (.iconst 1, 1) := by decide +kernel
theorem dX8_takes_106 : decode cX8_takes 106 = .ok (.if_icmp .ne 9, 3) := by decide +kernel
theorem dX8_takes_109 : decode cX8_takes 109 = .ok (.iload_n 1, 1) := by decide +kernel
theorem dX8_takes_110 : decode cX8_takes 110 = .ok (.bipush 46, 2) := by decide +kernel
theorem dX8_takes_112 : decode cX8_takes 112 = .ok (.if_icmp .eq 22, 3) := by decide +kernel
theorem dX8_takes_115 : decode cX8_takes 115 = .ok (.iload_n 2, 1) := by decide +kernel
theorem dX8_takes_116 : decode cX8_takes 116 = .ok (.bipush 91, 2) := by decide +kernel
theorem dX8_takes_118 : decode cX8_takes 118 = .ok (.if_icmp .ne 30, 3) := by decide +kernel
theorem dX8_takes_121 : decode cX8_takes 121 = .ok (.iload 4, 2) := by decide +kernel
theorem dX8_takes_123 : decode cX8_takes 123 = .ok (.bipush 6, 2) := by decide +kernel
theorem dX8_takes_125 : decode cX8_takes 125 = .ok (.if_icmp .ge 23, 3) := by decide +kernel
theorem dX8_takes_128 : decode cX8_takes 128 = .ok (.iload_n 1, 1) := by decide +kernel
theorem dX8_takes_129 : decode cX8_takes 129 = .ok (.bipush 44, 2) := by decide +kernel
theorem dX8_takes_131 : decode cX8_takes 131 = .ok (.if_icmp .ne 17, 3) := by decide +kernel
theorem dX8_takes_134 : decode cX8_takes 134 = .ok (.aload_n 0, 1) := by decide +kernel
theorem dX8_takes_135 : decode cX8_takes 135 = .ok (.getfield 30, 3) := by decide +kernel
theorem dX8_takes_138 : decode cX8_takes 138 = .ok (.aload_n 0, 1) := by decide +kernel
theorem dX8_takes_139 : decode cX8_takes 139 = .ok (.getfield 146, 3) := by decide +kernel
theorem dX8_takes_142 : decode cX8_takes 142 = .ok (.iconst 1, 1) := by decide +kernel
theorem dX8_takes_143 : decode cX8_takes 143 = .ok (.isub, 1) := by decide +kernel
theorem dX8_takes_144 : decode cX8_takes 144 = .ok (.iconst 2, 1) := by decide +kernel
theorem dX8_takes_145 : decode cX8_takes 145 = .ok (.iastore, 1) := by decide +kernel
theorem dX8_takes_146 : decode cX8_takes 146 = .ok (.iconst 1, 1) := by decide +kernel
theorem dX8_takes_147 : decode cX8_takes 147 = .ok (.ireturn, 1) := by decide +kernel
theorem dX8_takes_148 : decode cX8_takes 148 = .ok (.iload_n 2, 1) := by decide +kernel
theorem dX8_takes_149 : decode cX8_takes 149 = .ok (.bipush 40, 2) := by decide +kernel
theorem dX8_takes_151 : decode cX8_takes 151 = .ok (.if_icmp .ne 15, 3) := by decide +kernel
theorem dX8_takes_154 : decode cX8_takes 154 = .ok (.iload 4, 2) := by decide +kernel
theorem dX8_takes_156 : decode cX8_takes 156 = .ok (.iconst 2, 1) := by decide +kernel
theorem dX8_takes_157 : decode cX8_takes 157 = .ok (.if_icmp .ne 9, 3) := by decide +kernel
theorem dX8_takes_160 : decode cX8_takes 160 = .ok (.iload_n 1, 1) := by decide +kernel
theorem dX8_takes_161 : decode cX8_takes 161 = .ok (.bipush 41, 2) := by decide +kernel
theorem dX8_takes_163 : decode cX8_takes 163 = .ok (.if_icmp .eq 27, 3) := by decide +kernel
theorem dX8_takes_166 : decode cX8_takes 166 = .ok (.iload_n 2, 1) := by decide +kernel
theorem dX8_takes_167 : decode cX8_takes 167 = .ok (.bipush 91, 2) := by decide +kernel
theorem dX8_takes_169 : decode cX8_takes 169 = .ok (.if_icmp .ne 9, 3) := by decide +kernel
theorem dX8_takes_172 : decode cX8_takes 172 = .ok (.iload_n 1, 1) := by decide +kernel
theorem dX8_takes_173 : decode cX8_takes 173 = .ok (.bipush 93, 2) := by decide +kernel
theorem dX8_takes_175 : decode cX8_takes 175 = .ok (.if_icmp .eq 15, 3) := by decide +kernel
theorem dX8_takes_178 : decode cX8_takes 178 = .ok (.iload_n 2, 1) := by decide +kernel
theorem dX8_takes_179 : decode cX8_takes 179 = .ok (.bipush 60, 2) := by decide +kernel
theorem dX8_takes_181 : decode cX8_takes 181 = .ok (.if_icmp .ne 13, 3) := by decide +kernel
theorem dX8_takes_184 : decode cX8_takes 184 = .ok (.iload_n 1, 1) := by decide +kernel
theorem dX8_takes_185 : decode cX8_takes 185 = .ok (.bipush 62, 2) := by decide +kernel
theorem dX8_takes_187 : decode cX8_takes 187 = .ok (.if_icmp .ne 7, 3) := by decide +kernel
theorem dX8_takes_190 : decode cX8_takes 190 = .ok (.iconst 1, 1) := by decide +kernel
theorem dX8_takes_191 : decode cX8_takes 191 = .ok (.goto 4, 3) := by decide +kernel
theorem dX8_takes_194 : decode cX8_takes 194 = .ok (.iconst 0, 1) := by decide +kernel
theorem dX8_takes_195 : decode cX8_takes 195 = .ok (.istore 5, 2) := by decide +kernel
theorem dX8_takes_197 : decode cX8_takes 197 = .ok (.iload 5, 2) := by decide +kernel
theorem dX8_takes_199 : decode cX8_takes 199 = .ok (.ifCond .eq 7, 3) := by decide +kernel
theorem dX8_takes_202 : decode cX8_takes 202 = .ok (.aload_n 0, 1) := by decide +kernel
theorem dX8_takes_203 : decode cX8_takes 203 = .ok (.invokevirtual 178, 3) := by decide +kernel
theorem dX8_takes_206 : decode cX8_takes 206 = .ok (.iload 5, 2) := by decide +kernel
theorem dX8_takes_208 : decode cX8_takes 208 = .ok (.ireturn, 1) := by decide +kernel
theorem dX8_told_0 : decode cX8_told 0 = .ok (.iload_n 1, 1) := by decide +kernel
theorem dX8_told_1 : decode cX8_told 1 = .ok (.bipush 100, 2) := by decide +kernel
theorem dX8_told_3 : decode cX8_told 3 = .ok (.if_icmp .lt 12, 3) := by decide +kernel
theorem dX8_told_6 : decode cX8_told 6 = .ok (.iload_n 2, 1) := by decide +kernel
theorem dX8_told_7 : decode cX8_told 7 = .ok (.iload_n 1, 1) := by decide +kernel
theorem dX8_told_8 : decode cX8_told 8 = .ok (.iadd, 1) := by decide +kernel
theorem dX8_told_9 : decode cX8_told 9 = .ok (.bipush 100, 2) := by decide +kernel
theorem dX8_told_11 : decode cX8_told 11 = .ok (.isub, 1) := by decide +kernel
theorem dX8_told_12 : decode cX8_told 12 = .ok (.goto 4, 3) := by decide +kernel
theorem dX8_told_15 : decode cX8_told 15 = .ok (.iload_n 1, 1) := by decide +kernel
theorem dX8_told_16 : decode cX8_told 16 = .ok (.ireturn, 1) := by decide +kernel
theorem dX8_build_0 : decode cX8_build 0 = .ok (.iload_n 1, 1) := by decide +kernel
theorem dX8_build_1 : decode cX8_build 1 = .ok (.i2l, 1) := by decide +kernel
theorem dX8_build_2 : decode cX8_build 2 = .ok (.lconst 0, 1) := by decide +kernel
theorem dX8_build_3 : decode cX8_build 3 = .ok (.ldc2_w 135, 3) := by decide +kernel
theorem dX8_build_6 : decode cX8_build 6 = .ok (.invokestatic 57, 3) := by decide +kernel
theorem dX8_build_9 : decode cX8_build 9 = .ok (.ifCond .ne 5, 3) := by decide +kernel
theorem dX8_build_12 : decode cX8_build 12 = .ok (.iconst (-1), 1) := by decide +kernel
theorem dX8_build_13 : decode cX8_build 13 = .ok (.ireturn, 1) := by decide +kernel
theorem dX8_build_14 : decode cX8_build 14 = .ok (.aload_n 0, 1) := by decide +kernel
theorem dX8_build_15 : decode cX8_build 15 = .ok (.getfield 11, 3) := by decide +kernel
theorem dX8_build_18 : decode cX8_build 18 = .ok (.iconst 2, 1) := by decide +kernel
theorem dX8_build_19 : decode cX8_build 19 = .ok (.iaload, 1) := by decide +kernel
theorem dX8_build_20 : decode cX8_build 20 = .ok (.iconst 1, 1) := by decide +kernel
theorem dX8_build_21 : decode cX8_build 21 = .ok (.if_icmp .ne 6, 3) := by decide +kernel
theorem dX8_build_24 : decode cX8_build 24 = .ok (.bipush (-3), 2) := by decide +kernel
theorem dX8_build_26 : decode cX8_build 26 = .ok (.ireturn, 1) := by decide +kernel
theorem dX8_build_27 : decode cX8_build 27 = .ok (.aload_n 0, 1) := by decide +kernel
theorem dX8_build_28 : decode cX8_build 28 = .ok (.getfield 139, 3) := by decide +kernel
theorem dX8_build_31 : decode cX8_build 31 = .ok (.istore_n 2, 1) := by decide +kernel
theorem dX8_build_32 : decode cX8_build 32 = .ok (.aload_n 0, 1) := by decide +kernel
theorem dX8_build_33 : decode cX8_build 33 = .ok (.iconst 0, 1) := by decide +kernel
theorem dX8_build_34 : decode cX8_build 34 = .ok (.putfield 139, 3) := by decide +kernel
theorem dX8_build_37 : decode cX8_build 37 = .ok (.aload_n 0, 1) := by decide +kernel
theorem dX8_build_38 : decode cX8_build 38 = .ok (.iconst 0, 1) := by decide +kernel
theorem dX8_build_39 : decode cX8_build 39 = .ok (.putfield 143, 3) := by decide +kernel
theorem dX8_build_42 : decode cX8_build 42 = .ok (.aload_n 0, 1) := by decide +kernel
theorem dX8_build_43 : decode cX8_build 43 = .ok (.iconst 0, 1) := by decide +kernel
theorem dX8_build_44 : decode cX8_build 44 = .ok (.putfield 146, 3) := by decide +kernel
theorem dX8_build_47 : decode cX8_build 47 = .ok (.aload_n 0, 1) := by decide +kernel
theorem dX8_build_48 : decode cX8_build 48 = .ok (.iconst 0, 1) := by decide +kernel
theorem dX8_build_49 : decode cX8_build 49 = .ok (.putfield 152, 3) := by decide +kernel
theorem dX8_build_52 : decode cX8_build 52 = .ok (.iconst 0, 1) := by decide +kernel
theorem dX8_build_53 : decode cX8_build 53 = .ok (.istore_n 3, 1) := by decide +kernel
theorem dX8_build_54 : decode cX8_build 54 = .ok (.iload_n 3, 1) := by decide +kernel
theorem dX8_build_55 : decode cX8_build 55 = .ok (.iload_n 2, 1) := by decide +kernel
theorem dX8_build_56 : decode cX8_build 56 = .ok (.if_icmp .ge 27, 3) := by decide +kernel
theorem dX8_build_59 : decode cX8_build 59 = .ok (.aload_n 0, 1) := by decide +kernel
theorem dX8_build_60 : decode cX8_build 60 = .ok (.aload_n 0, 1) := by decide +kernel
theorem dX8_build_61 : decode cX8_build 61 = .ok (.getfield 21, 3) := by decide +kernel
theorem dX8_build_64 : decode cX8_build 64 = .ok (.iload_n 3, 1) := by decide +kernel
theorem dX8_build_65 : decode cX8_build 65 = .ok (.iaload, 1) := by decide +kernel
theorem dX8_build_66 : decode cX8_build 66 = .ok (.invokevirtual 181, 3) := by decide +kernel
theorem dX8_build_69 : decode cX8_build 69 = .ok (.ifCond .ne 8, 3) := by decide +kernel
theorem dX8_build_72 : decode cX8_build 72 = .ok (.bipush (-10), 2) := by decide +kernel
theorem dX8_build_74 : decode cX8_build 74 = .ok (.iload_n 3, 1) := by decide +kernel
theorem dX8_build_75 : decode cX8_build 75 = .ok (.isub, 1) := by decide +kernel
theorem dX8_build_76 : decode cX8_build 76 = .ok (.ireturn, 1) := by decide +kernel
theorem dX8_build_77 : decode cX8_build 77 = .ok (.iinc 3 1, 3) := by decide +kernel
theorem dX8_build_80 : decode cX8_build 80 = .ok (.goto (-26), 3) := by decide +kernel
theorem dX8_build_83 : decode cX8_build 83 = .ok (.aload_n 0, 1) := by decide +kernel
theorem dX8_build_84 : decode cX8_build 84 = .ok (.getfield 152, 3) := by decide +kernel
theorem dX8_build_87 : decode cX8_build 87 = .ok (.ifCond .ne 8, 3) := by decide +kernel
theorem dX8_build_90 : decode cX8_build 90 = .ok (.bipush (-10), 2) := by decide +kernel
theorem dX8_build_92 : decode cX8_build 92 = .ok (.iload_n 2, 1) := by decide +kernel
theorem dX8_build_93 : decode cX8_build 93 = .ok (.isub, 1) := by decide +kernel
theorem dX8_build_94 : decode cX8_build 94 = .ok (.ireturn, 1) := by decide +kernel
theorem dX8_build_95 : decode cX8_build 95 = .ok (.aload_n 0, 1) := by decide +kernel
theorem dX8_build_96 : decode cX8_build 96 = .ok (.getfield 11, 3) := by decide +kernel
theorem dX8_build_99 : decode cX8_build 99 = .ok (.iconst 0, 1) := by decide +kernel
theorem dX8_build_100 : decode cX8_build 100 = .ok (.iaload, 1) := by decide +kernel
theorem dX8_build_101 : decode cX8_build 101 = .ok (.istore_n 3, 1) := by decide +kernel
theorem dX8_build_102 : decode cX8_build 102 = .ok (.iload_n 3, 1) := by decide +kernel
theorem dX8_build_103 : decode cX8_build 103 = .ok (.aload_n 0, 1) := by decide +kernel
theorem dX8_build_104 : decode cX8_build 104 = .ok (.getfield 143, 3) := by decide +kernel
theorem dX8_build_107 : decode cX8_build 107 = .ok (.iadd, 1) := by decide +kernel
theorem dX8_build_108 : decode cX8_build 108 = .ok (.bipush 24, 2) := by decide +kernel
theorem dX8_build_110 : decode cX8_build 110 = .ok (.if_icmp .le 6, 3) := by decide +kernel
theorem dX8_build_113 : decode cX8_build 113 = .ok (.bipush (-4), 2) := by decide +kernel
theorem dX8_build_115 : decode cX8_build 115 = .ok (.ireturn, 1) := by decide +kernel
theorem dX8_build_116 : decode cX8_build 116 = .ok (.iconst 0, 1) := by decide +kernel
theorem dX8_build_117 : decode cX8_build 117 = .ok (.istore 4, 2) := by decide +kernel
theorem dX8_build_119 : decode cX8_build 119 = .ok (.iload 4, 2) := by decide +kernel
theorem dX8_build_121 : decode cX8_build 121 = .ok (.aload_n 0, 1) := by decide +kernel
theorem dX8_build_122 : decode cX8_build 122 = .ok (.getfield 143, 3) := by decide +kernel
theorem dX8_build_125 : decode cX8_build 125 = .ok (.if_icmp .ge 95, 3) := by decide +kernel
theorem dX8_build_128 : decode cX8_build 128 = .ok (.aload_n 0, 1) := by decide +kernel
theorem dX8_build_129 : decode cX8_build 129 = .ok (.getfield 11, 3) := by decide +kernel
theorem dX8_build_132 : decode cX8_build 132 = .ok (.aload_n 0, 1) := by decide +kernel
theorem dX8_build_133 : decode cX8_build 133 = .ok (.getfield 33, 3) := by decide +kernel
theorem dX8_build_136 : decode cX8_build 136 = .ok (.iload 4, 2) := by decide +kernel
theorem dX8_build_138 : decode cX8_build 138 = .ok (.iaload, 1) := by decide +kernel
theorem dX8_build_139 : decode cX8_build 139 = .ok (.aload_n 0, 1) := by decide +kernel
theorem dX8_build_140 : decode cX8_build 140 = .ok (.getfield 36, 3) := by decide +kernel
theorem dX8_build_143 : decode cX8_build 143 = .ok (.iload 4, 2) := by decide +kernel
theorem dX8_build_145 : decode cX8_build 145 = .ok (.iaload, 1) := by decide +kernel
theorem dX8_build_146 : decode cX8_build 146 = .ok (.aload_n 0, 1) := by decide +kernel
theorem dX8_build_147 : decode cX8_build 147 = .ok (.getfield 39, 3) := by decide +kernel
theorem dX8_build_150 : decode cX8_build 150 = .ok (.iload 4, 2) := by decide +kernel
theorem dX8_build_152 : decode cX8_build 152 = .ok (.iaload, 1) := by decide +kernel
theorem dX8_build_153 : decode cX8_build 153 = .ok (.invokestatic 77, 3) := by decide +kernel
theorem dX8_build_156 : decode cX8_build 156 = .ok (.istore 5, 2) := by decide +kernel
theorem dX8_build_158 : decode cX8_build 158 = .ok (.iconst 0, 1) := by decide +kernel
theorem dX8_build_159 : decode cX8_build 159 = .ok (.istore 6, 2) := by decide +kernel
theorem dX8_build_161 : decode cX8_build 161 = .ok (.iload 6, 2) := by decide +kernel
theorem dX8_build_163 : decode cX8_build 163 = .ok (.aload_n 0, 1) := by decide +kernel
theorem dX8_build_164 : decode cX8_build 164 = .ok (.getfield 39, 3) := by decide +kernel
theorem dX8_build_167 : decode cX8_build 167 = .ok (.iload 4, 2) := by decide +kernel
theorem dX8_build_169 : decode cX8_build 169 = .ok (.iaload, 1) := by decide +kernel
theorem dX8_build_170 : decode cX8_build 170 = .ok (.if_icmp .ge 44, 3) := by decide +kernel
theorem dX8_build_173 : decode cX8_build 173 = .ok (.aload_n 0, 1) := by decide +kernel
theorem dX8_build_174 : decode cX8_build 174 = .ok (.getfield 11, 3) := by decide +kernel
theorem dX8_build_177 : decode cX8_build 177 = .ok (.sipush 140, 3) := by decide +kernel
theorem dX8_build_180 : decode cX8_build 180 = .ok (.bipush 6, 2) := by decide +kernel
theorem dX8_build_182 : decode cX8_build 182 = .ok (.iload 5, 2) := by decide +kernel
theorem dX8_build_184 : decode cX8_build 184 = .ok (.imul, 1) := by decide +kernel
theorem dX8_build_185 : decode cX8_build 185 = .ok (.iadd, 1) := by decide +kernel
theorem dX8_build_186 : decode cX8_build 186 = .ok (.iload 6, 2) := by decide +kernel
theorem dX8_build_188 : decode cX8_build 188 = .ok (.iadd, 1) := by decide +kernel
theorem dX8_build_189 : decode cX8_build 189 = .ok (.aload_n 0, 1) := by decide +kernel
theorem dX8_build_190 : decode cX8_build 190 = .ok (.aload_n 0, 1) := by decide +kernel
theorem dX8_build_191 : decode cX8_build 191 = .ok (.getfield 42, 3) := by decide +kernel
theorem dX8_build_194 : decode cX8_build 194 = .ok (.bipush 6, 2) := by decide +kernel
theorem dX8_build_196 : decode cX8_build 196 = .ok (.iload 4, 2) := by decide +kernel
theorem dX8_build_198 : decode cX8_build 198 = .ok (.imul, 1) := by decide +kernel
theorem dX8_build_199 : decode cX8_build 199 = .ok (.iload 6, 2) := by decide +kernel
theorem dX8_build_201 : decode cX8_build 201 = .ok (.iadd, 1) := by decide +kernel
theorem dX8_build_202 : decode cX8_build 202 = .ok (.iaload, 1) := by decide +kernel
theorem dX8_build_203 : decode cX8_build 203 = .ok (.iload_n 3, 1) := by decide +kernel
theorem dX8_build_204 : decode cX8_build 204 = .ok (.invokevirtual 184, 3) := by decide +kernel
theorem dX8_build_207 : decode cX8_build 207 = .ok (.iastore, 1) := by decide +kernel
theorem dX8_build_208 : decode cX8_build 208 = .ok (.iinc 6 1, 3) := by decide +kernel
theorem dX8_build_211 : decode cX8_build 211 = .ok (.goto (-50), 3) := by decide +kernel
theorem dX8_build_214 : decode cX8_build 214 = .ok (.iinc 4 1, 3) := by decide +kernel
theorem dX8_build_217 : decode cX8_build 217 = .ok (.goto (-98), 3) := by decide +kernel
theorem dX8_build_220 : decode cX8_build 220 = .ok (.aload_n 0, 1) := by decide +kernel
theorem dX8_build_221 : decode cX8_build 221 = .ok (.getfield 11, 3) := by decide +kernel
theorem dX8_build_224 : decode cX8_build 224 = .ok (.bipush 16, 2) := by decide +kernel
theorem dX8_build_226 : decode cX8_build 226 = .ok (.iload_n 1, 1) := by decide +kernel
theorem dX8_build_227 : decode cX8_build 227 = .ok (.iadd, 1) := by decide +kernel
theorem dX8_build_228 : decode cX8_build 228 = .ok (.aload_n 0, 1) := by decide +kernel
theorem dX8_build_229 : decode cX8_build 229 = .ok (.aload_n 0, 1) := by decide +kernel
theorem dX8_build_230 : decode cX8_build 230 = .ok (.getfield 149, 3) := by decide +kernel
theorem dX8_build_233 : decode cX8_build 233 = .ok (.iload_n 3, 1) := by decide +kernel
theorem dX8_build_234 : decode cX8_build 234 = .ok (.invokevirtual 184, 3) := by decide +kernel
theorem dX8_build_237 : decode cX8_build 237 = .ok (.iastore, 1) := by decide +kernel
theorem dX8_build_238 : decode cX8_build 238 = .ok (.aload_n 0, 1) := by decide +kernel
theorem dX8_build_239 : decode cX8_build 239 = .ok (.getfield 11, 3) := by decide +kernel
theorem dX8_build_242 : decode cX8_build 242 = .ok (.bipush 15, 2) := by decide +kernel
theorem dX8_build_244 : decode cX8_build 244 = .ok (.iconst 0, 1) := by decide +kernel
theorem dX8_build_245 : decode cX8_build 245 = .ok (.iastore, 1) := by decide +kernel
theorem dX8_build_246 : decode cX8_build 246 = .ok (.aload_n 0, 1) := by decide +kernel
theorem dX8_build_247 : decode cX8_build 247 = .ok (.getfield 143, 3) := by decide +kernel
theorem dX8_build_250 : decode cX8_build 250 = .ok (.ireturn, 1) := by decide +kernel
theorem dX8_starts_0 : decode cX8_starts 0 = .ok (.aload_n 0, 1) := by decide +kernel
theorem dX8_starts_1 : decode cX8_starts 1 = .ok (.iconst 2, 1) := by decide +kernel
theorem dX8_starts_2 : decode cX8_starts 2 = .ok (.iconst 1, 1) := by decide +kernel
theorem dX8_starts_3 : decode cX8_starts 3 = .ok (.iastore, 1) := by decide +kernel
theorem dX8_starts_4 : decode cX8_starts 4 = .ok (.aload_n 0, 1) := by decide +kernel
theorem dX8_starts_5 : decode cX8_starts 5 = .ok (.iconst 3, 1) := by decide +kernel
theorem dX8_starts_6 : decode cX8_starts 6 = .ok (.iload_n 1, 1) := by decide +kernel
theorem dX8_starts_7 : decode cX8_starts 7 = .ok (.iastore, 1) := by decide +kernel
theorem dX8_starts_8 : decode cX8_starts 8 = .ok (.aload_n 0, 1) := by decide +kernel
theorem dX8_starts_9 : decode cX8_starts 9 = .ok (.iconst 4, 1) := by decide +kernel
theorem dX8_starts_10 : decode cX8_starts 10 = .ok (.bipush (-5), 2) := by decide +kernel
theorem dX8_starts_12 : decode cX8_starts 12 = .ok (.iastore, 1) := by decide +kernel
theorem dX8_starts_13 : decode cX8_starts 13 = .ok (.aload_n 0, 1) := by decide +kernel
theorem dX8_starts_14 : decode cX8_starts 14 = .ok (.iconst 5, 1) := by decide +kernel
theorem dX8_starts_15 : decode cX8_starts 15 = .ok (.iconst 0, 1) := by decide +kernel
theorem dX8_starts_16 : decode cX8_starts 16 = .ok (.iastore, 1) := by decide +kernel
theorem dX8_starts_17 : decode cX8_starts 17 = .ok (.aload_n 0, 1) := by decide +kernel
theorem dX8_starts_18 : decode cX8_starts 18 = .ok (.bipush 6, 2) := by decide +kernel
theorem dX8_starts_20 : decode cX8_starts 20 = .ok (.iconst 0, 1) := by decide +kernel
theorem dX8_starts_21 : decode cX8_starts 21 = .ok (.iastore, 1) := by decide +kernel
theorem dX8_starts_22 : decode cX8_starts 22 = .ok (.aload_n 0, 1) := by decide +kernel
theorem dX8_starts_23 : decode cX8_starts 23 = .ok (.bipush 7, 2) := by decide +kernel
theorem dX8_starts_25 : decode cX8_starts 25 = .ok (.iconst 0, 1) := by decide +kernel
theorem dX8_starts_26 : decode cX8_starts 26 = .ok (.iastore, 1) := by decide +kernel
theorem dX8_starts_27 : decode cX8_starts 27 = .ok (.aload_n 0, 1) := by decide +kernel
theorem dX8_starts_28 : decode cX8_starts 28 = .ok (.bipush 8, 2) := by decide +kernel
theorem dX8_starts_30 : decode cX8_starts 30 = .ok (.iconst 0, 1) := by decide +kernel
theorem dX8_starts_31 : decode cX8_starts 31 = .ok (.iastore, 1) := by decide +kernel
theorem dX8_starts_32 : decode cX8_starts 32 = .ok (.aload_n 0, 1) := by decide +kernel
theorem dX8_starts_33 : decode cX8_starts 33 = .ok (.bipush 9, 2) := by decide +kernel
theorem dX8_starts_35 : decode cX8_starts 35 = .ok (.iconst 0, 1) := by decide +kernel
theorem dX8_starts_36 : decode cX8_starts 36 = .ok (.iastore, 1) := by decide +kernel
theorem dX8_starts_37 : decode cX8_starts 37 = .ok (.aload_n 0, 1) := by decide +kernel
theorem dX8_starts_38 : decode cX8_starts 38 = .ok (.bipush 10, 2) := by decide +kernel
theorem dX8_starts_40 : decode cX8_starts 40 = .ok (.iconst 0, 1) := by decide +kernel
theorem dX8_starts_41 : decode cX8_starts 41 = .ok (.iastore, 1) := by decide +kernel
theorem dX8_starts_42 : decode cX8_starts 42 = .ok (.aload_n 0, 1) := by decide +kernel
theorem dX8_starts_43 : decode cX8_starts 43 = .ok (.bipush 11, 2) := by decide +kernel
theorem dX8_starts_45 : decode cX8_starts 45 = .ok (.iconst 0, 1) := by decide +kernel
theorem dX8_starts_46 : decode cX8_starts 46 = .ok (.iastore, 1) := by decide +kernel
theorem dX8_starts_47 : decode cX8_starts 47 = .ok (.aload_n 0, 1) := by decide +kernel
theorem dX8_starts_48 : decode cX8_starts 48 = .ok (.bipush 12, 2) := by decide +kernel
theorem dX8_starts_50 : decode cX8_starts 50 = .ok (.iconst 0, 1) := by decide +kernel
theorem dX8_starts_51 : decode cX8_starts 51 = .ok (.iastore, 1) := by decide +kernel
theorem dX8_starts_52 : decode cX8_starts 52 = .ok (.aload_n 0, 1) := by decide +kernel
theorem dX8_starts_53 : decode cX8_starts 53 = .ok (.bipush 13, 2) := by decide +kernel
theorem dX8_starts_55 : decode cX8_starts 55 = .ok (.iconst 0, 1) := by decide +kernel
theorem dX8_starts_56 : decode cX8_starts 56 = .ok (.iastore, 1) := by decide +kernel
theorem dX8_starts_57 : decode cX8_starts 57 = .ok (.aload_n 0, 1) := by decide +kernel
theorem dX8_starts_58 : decode cX8_starts 58 = .ok (.bipush 15, 2) := by decide +kernel
theorem dX8_starts_60 : decode cX8_starts 60 = .ok (.iconst 0, 1) := by decide +kernel
theorem dX8_starts_61 : decode cX8_starts 61 = .ok (.iastore, 1) := by decide +kernel
theorem dX8_starts_62 : decode cX8_starts 62 = .ok (.return_, 1) := by decide +kernel
theorem dX8_marks_0 : decode cX8_marks 0 = .ok (.aload_n 0, 1) := by decide +kernel
theorem dX8_marks_1 : decode cX8_marks 1 = .ok (.bipush 12, 2) := by decide +kernel
theorem dX8_marks_3 : decode cX8_marks 3 = .ok (.dup2, 1) := by decide +kernel
theorem dX8_marks_4 : decode cX8_marks 4 = .ok (.iaload, 1) := by decide +kernel
theorem dX8_marks_5 : decode cX8_marks 5 = .ok (.iconst 1, 1) := by decide +kernel
theorem dX8_marks_6 : decode cX8_marks 6 = .ok (.iload_n 1, 1) := by decide +kernel
theorem dX8_marks_7 : decode cX8_marks 7 = .ok (.ishl, 1) := by decide +kernel
theorem dX8_marks_8 : decode cX8_marks 8 = .ok (.ior, 1) := by decide +kernel
theorem dX8_marks_9 : decode cX8_marks 9 = .ok (.iastore, 1) := by decide +kernel
theorem dX8_marks_10 : decode cX8_marks 10 = .ok (.aload_n 0, 1) := by decide +kernel
theorem dX8_marks_11 : decode cX8_marks 11 = .ok (.bipush 92, 2) := by decide +kernel
theorem dX8_marks_13 : decode cX8_marks 13 = .ok (.iload_n 1, 1) := by decide +kernel
theorem dX8_marks_14 : decode cX8_marks 14 = .ok (.iadd, 1) := by decide +kernel
theorem dX8_marks_15 : decode cX8_marks 15 = .ok (.iconst 0, 1) := by decide +kernel
theorem dX8_marks_16 : decode cX8_marks 16 = .ok (.iastore, 1) := by decide +kernel
theorem dX8_marks_17 : decode cX8_marks 17 = .ok (.return_, 1) := by decide +kernel
theorem dX8_stepAtNone_0 : decode cX8_stepAtNone 0 = .ok (.aload_n 0, 1) := by decide +kernel
theorem dX8_stepAtNone_1 : decode cX8_stepAtNone 1 = .ok (.iconst 5, 1) := by decide +kernel
theorem dX8_stepAtNone_2 : decode cX8_stepAtNone 2 = .ok (.iaload, 1) := by decide +kernel
theorem dX8_stepAtNone_3 : decode cX8_stepAtNone 3 = .ok (.iconst 4, 1) := by decide +kernel
theorem dX8_stepAtNone_4 : decode cX8_stepAtNone 4 = .ok (.if_icmp .ge 44, 3) := by decide +kernel
theorem dX8_stepAtNone_7 : decode cX8_stepAtNone 7 = .ok (.aload_n 0, 1) := by decide +kernel
theorem dX8_stepAtNone_8 : decode cX8_stepAtNone 8 = .ok (.bipush 16, 2) := by decide +kernel
theorem dX8_stepAtNone_10 : decode cX8_stepAtNone 10 = .ok (.aload_n 0, 1) := by decide +kernel
theorem dX8_stepAtNone_11 : decode cX8_stepAtNone 11 = .ok (.iconst 5, 1) := by decide +kernel
theorem dX8_stepAtNone_12 : decode cX8_stepAtNone 12 = .ok (.iaload, 1) := by decide +kernel
theorem dX8_stepAtNone_13 : decode cX8_stepAtNone 13 = .ok (.iadd, 1) := by decide +kernel
theorem dX8_stepAtNone_14 : decode cX8_stepAtNone 14 = .ok (.iaload, 1) := by decide +kernel
theorem dX8_stepAtNone_15 : decode cX8_stepAtNone 15 = .ok (.istore_n 1, 1) := by decide +kernel
theorem dX8_stepAtNone_16 : decode cX8_stepAtNone 16 = .ok (.aload_n 0, 1) := by decide +kernel
theorem dX8_stepAtNone_17 : decode cX8_stepAtNone 17 = .ok (.iconst 5, 1) := by decide +kernel
theorem dX8_stepAtNone_18 : decode cX8_stepAtNone 18 = .ok (.dup2, 1) := by decide +kernel
theorem dX8_stepAtNone_19 : decode cX8_stepAtNone 19 = .ok (.iaload, 1) := by decide +kernel
theorem dX8_stepAtNone_20 : decode cX8_stepAtNone 20 = .ok (.iconst 1, 1) := by decide +kernel
theorem dX8_stepAtNone_21 : decode cX8_stepAtNone 21 = .ok (.iadd, 1) := by decide +kernel
theorem dX8_stepAtNone_22 : decode cX8_stepAtNone 22 = .ok (.iastore, 1) := by decide +kernel
theorem dX8_stepAtNone_23 : decode cX8_stepAtNone 23 = .ok (.iload_n 1, 1) := by decide +kernel
theorem dX8_stepAtNone_24 : decode cX8_stepAtNone 24 = .ok (.ifCond .lt 23, 3) := by decide +kernel
theorem dX8_stepAtNone_27 : decode cX8_stepAtNone 27 = .ok (.aload_n 0, 1) := by decide +kernel
theorem dX8_stepAtNone_28 : decode cX8_stepAtNone 28 = .ok (.bipush 12, 2) := by decide +kernel
theorem dX8_stepAtNone_30 : decode cX8_stepAtNone 30 = .ok (.iaload, 1) := by decide +kernel
theorem dX8_stepAtNone_31 : decode cX8_stepAtNone 31 = .ok (.iload_n 1, 1) := by decide +kernel
theorem dX8_stepAtNone_32 : decode cX8_stepAtNone 32 = .ok (.invokestatic 61, 3) := by decide +kernel
theorem dX8_stepAtNone_35 : decode cX8_stepAtNone 35 = .ok (.ifCond .ne 12, 3) := by decide +kernel
theorem dX8_stepAtNone_38 : decode cX8_stepAtNone 38 = .ok (.aload_n 0, 1) := by decide +kernel
theorem dX8_stepAtNone_39 : decode cX8_stepAtNone 39 = .ok (.iload_n 1, 1) := by decide +kernel
theorem dX8_stepAtNone_40 : decode cX8_stepAtNone 40 = .ok (.invokestatic 187, 3) := by decide +kernel
theorem dX8_stepAtNone_43 : decode cX8_stepAtNone 43 = .ok (.aload_n 0, 1) := by decide +kernel
theorem dX8_stepAtNone_44 : decode cX8_stepAtNone 44 = .ok (.iconst 4, 1) := by decide +kernel
theorem dX8_stepAtNone_45 : decode cX8_stepAtNone 45 = .ok (.iload_n 1, 1) := by decide +kernel
theorem dX8_stepAtNone_46 : decode cX8_stepAtNone 46 = .ok (.iastore, 1) := by decide +kernel
theorem dX8_stepAtNone_47 : decode cX8_stepAtNone 47 = .ok (.return_, 1) := by decide +kernel
theorem dX8_stepAtNone_48 : decode cX8_stepAtNone 48 = .ok (.iconst 0, 1) := by decide +kernel
theorem dX8_stepAtNone_49 : decode cX8_stepAtNone 49 = .ok (.istore_n 1, 1) := by decide +kernel
theorem dX8_stepAtNone_50 : decode cX8_stepAtNone 50 = .ok (.iload_n 1, 1) := by decide +kernel
theorem dX8_stepAtNone_51 : decode cX8_stepAtNone 51 = .ok (.bipush 24, 2) := by decide +kernel
theorem dX8_stepAtNone_53 : decode cX8_stepAtNone 53 = .ok (.if_icmp .ge 44, 3) := by decide +kernel
theorem dX8_stepAtNone_56 : decode cX8_stepAtNone 56 = .ok (.aload_n 0, 1) := by decide +kernel
theorem dX8_stepAtNone_57 : decode cX8_stepAtNone 57 = .ok (.bipush 13, 2) := by decide +kernel
theorem dX8_stepAtNone_59 : decode cX8_stepAtNone 59 = .ok (.iaload, 1) := by decide +kernel
theorem dX8_stepAtNone_60 : decode cX8_stepAtNone 60 = .ok (.iload_n 1, 1) := by decide +kernel
theorem dX8_stepAtNone_61 : decode cX8_stepAtNone 61 = .ok (.invokestatic 61, 3) := by decide +kernel
theorem dX8_stepAtNone_64 : decode cX8_stepAtNone 64 = .ok (.ifCond .eq 27, 3) := by decide +kernel
theorem dX8_stepAtNone_67 : decode cX8_stepAtNone 67 = .ok (.aload_n 0, 1) := by decide +kernel
theorem dX8_stepAtNone_68 : decode cX8_stepAtNone 68 = .ok (.bipush 13, 2) := by decide +kernel
theorem dX8_stepAtNone_70 : decode cX8_stepAtNone 70 = .ok (.dup2, 1) := by decide +kernel
theorem dX8_stepAtNone_71 : decode cX8_stepAtNone 71 = .ok (.iaload, 1) := by decide +kernel
theorem dX8_stepAtNone_72 : decode cX8_stepAtNone 72 = .ok (.iconst 1, 1) := by decide +kernel
theorem dX8_stepAtNone_73 : decode cX8_stepAtNone 73 = .ok (.iload_n 1, 1) := by decide +kernel
theorem dX8_stepAtNone_74 : decode cX8_stepAtNone 74 = .ok (.ishl, 1) := by decide +kernel
theorem dX8_stepAtNone_75 : decode cX8_stepAtNone 75 = .ok (.iconst (-1), 1) := by decide +kernel
theorem dX8_stepAtNone_76 : decode cX8_stepAtNone 76 = .ok (.ixor, 1) := by decide +kernel
theorem dX8_stepAtNone_77 : decode cX8_stepAtNone 77 = .ok (.iand, 1) := by decide +kernel
theorem dX8_stepAtNone_78 : decode cX8_stepAtNone 78 = .ok (.iastore, 1) := by decide +kernel
theorem dX8_stepAtNone_79 : decode cX8_stepAtNone 79 = .ok (.aload_n 0, 1) := by decide +kernel
theorem dX8_stepAtNone_80 : decode cX8_stepAtNone 80 = .ok (.iconst 4, 1) := by decide +kernel
theorem dX8_stepAtNone_81 : decode cX8_stepAtNone 81 = .ok (.iload_n 1, 1) := by decide +kernel
theorem dX8_stepAtNone_82 : decode cX8_stepAtNone 82 = .ok (.iastore, 1) := by decide +kernel
theorem dX8_stepAtNone_83 : decode cX8_stepAtNone 83 = .ok (.aload_n 0, 1) := by decide +kernel
theorem dX8_stepAtNone_84 : decode cX8_stepAtNone 84 = .ok (.bipush 92, 2) := by decide +kernel
theorem dX8_stepAtNone_86 : decode cX8_stepAtNone 86 = .ok (.iload_n 1, 1) := by decide +kernel
theorem dX8_stepAtNone_87 : decode cX8_stepAtNone 87 = .ok (.iadd, 1) := by decide +kernel
theorem dX8_stepAtNone_88 : decode cX8_stepAtNone 88 = .ok (.iconst 0, 1) := by decide +kernel
theorem dX8_stepAtNone_89 : decode cX8_stepAtNone 89 = .ok (.iastore, 1) := by decide +kernel
theorem dX8_stepAtNone_90 : decode cX8_stepAtNone 90 = .ok (.return_, 1) := by decide +kernel
theorem dX8_stepAtNone_91 : decode cX8_stepAtNone 91 = .ok (.iinc 1 1, 3) := by decide +kernel
theorem dX8_stepAtNone_94 : decode cX8_stepAtNone 94 = .ok (.goto (-44), 3) := by decide +kernel
theorem dX8_stepAtNone_97 : decode cX8_stepAtNone 97 = .ok (.aload_n 0, 1) := by decide +kernel
theorem dX8_stepAtNone_98 : decode cX8_stepAtNone 98 = .ok (.iconst 2, 1) := by decide +kernel
theorem dX8_stepAtNone_99 : decode cX8_stepAtNone 99 = .ok (.iconst 0, 1) := by decide +kernel
theorem dX8_stepAtNone_100 : decode cX8_stepAtNone 100 = .ok (.iastore, 1) := by decide +kernel
theorem dX8_stepAtNone_101 : decode cX8_stepAtNone 101 = .ok (.aload_n 0, 1) := by decide +kernel
theorem dX8_stepAtNone_102 : decode cX8_stepAtNone 102 = .ok (.bipush 15, 2) := by decide +kernel
theorem dX8_stepAtNone_104 : decode cX8_stepAtNone 104 = .ok (.iconst 1, 1) := by decide +kernel
theorem dX8_stepAtNone_105 : decode cX8_stepAtNone 105 = .ok (.iastore, 1) := by decide +kernel
theorem dX8_stepAtNone_106 : decode cX8_stepAtNone 106 = .ok (.return_, 1) := by decide +kernel
theorem dX8_goesDown_0 : decode cX8_goesDown 0 = .ok (.aload_n 0, 1) := by decide +kernel
theorem dX8_goesDown_1 : decode cX8_goesDown 1 = .ok (.iload_n 2, 1) := by decide +kernel
theorem dX8_goesDown_2 : decode cX8_goesDown 2 = .ok (.invokestatic 187, 3) := by decide +kernel
theorem dX8_goesDown_5 : decode cX8_goesDown 5 = .ok (.aload_n 0, 1) := by decide +kernel
theorem dX8_goesDown_6 : decode cX8_goesDown 6 = .ok (.bipush 6, 2) := by decide +kernel
theorem dX8_goesDown_8 : decode cX8_goesDown 8 = .ok (.iaload, 1) := by decide +kernel
theorem dX8_goesDown_9 : decode cX8_goesDown 9 = .ok (.aload_n 0, 1) := by decide +kernel
theorem dX8_goesDown_10 : decode cX8_goesDown 10 = .ok (.iconst 3, 1) := by decide +kernel
theorem dX8_goesDown_11 : decode cX8_goesDown 11 = .ok (.iaload, 1) := by decide +kernel
theorem dX8_goesDown_12 : decode cX8_goesDown 12 = .ok (.if_icmp .ge 7, 3) := by decide +kernel
theorem dX8_goesDown_15 : decode cX8_goesDown 15 = .ok (.iconst 1, 1) := by decide +kernel
theorem dX8_goesDown_16 : decode cX8_goesDown 16 = .ok (.goto 4, 3) := by decide +kernel
theorem dX8_goesDown_19 : decode cX8_goesDown 19 = .ok (.iconst 0, 1) := by decide +kernel
theorem dX8_goesDown_20 : decode cX8_goesDown 20 = .ok (.istore_n 3, 1) := by decide +kernel
theorem dX8_goesDown_21 : decode cX8_goesDown 21 = .ok (.iload_n 3, 1) := by decide +kernel
theorem dX8_goesDown_22 : decode cX8_goesDown 22 = .ok (.ifCond .ne 43, 3) := by decide +kernel
theorem dX8_goesDown_25 : decode cX8_goesDown 25 = .ok (.aload_n 0, 1) := by decide +kernel
theorem dX8_goesDown_26 : decode cX8_goesDown 26 = .ok (.bipush 14, 2) := by decide +kernel
theorem dX8_goesDown_28 : decode cX8_goesDown 28 = .ok (.iaload, 1) := by decide +kernel
theorem dX8_goesDown_29 : decode cX8_goesDown 29 = .ok (.iload_n 1, 1) := by decide +kernel
theorem dX8_goesDown_30 : decode cX8_goesDown 30 = .ok (.invokestatic 61, 3) := by decide +kernel
theorem dX8_goesDown_33 : decode cX8_goesDown 33 = .ok (.ifCond .eq 32, 3) := by decide +kernel
theorem dX8_goesDown_36 : decode cX8_goesDown 36 = .ok (.aload_n 0, 1) := by decide +kernel
theorem dX8_goesDown_37 : decode cX8_goesDown 37 = .ok (.bipush 13, 2) := by decide +kernel
theorem dX8_goesDown_39 : decode cX8_goesDown 39 = .ok (.dup2, 1) := by decide +kernel
theorem dX8_goesDown_40 : decode cX8_goesDown 40 = .ok (.iaload, 1) := by decide +kernel
theorem dX8_goesDown_41 : decode cX8_goesDown 41 = .ok (.iconst 1, 1) := by decide +kernel
theorem dX8_goesDown_42 : decode cX8_goesDown 42 = .ok (.iload_n 2, 1) := by decide +kernel
theorem dX8_goesDown_43 : decode cX8_goesDown 43 = .ok (.ishl, 1) := by decide +kernel
theorem dX8_goesDown_44 : decode cX8_goesDown 44 = .ok (.ior, 1) := by decide +kernel
theorem dX8_goesDown_45 : decode cX8_goesDown 45 = .ok (.iastore, 1) := by decide +kernel
theorem dX8_goesDown_46 : decode cX8_goesDown 46 = .ok (.aload_n 0, 1) := by decide +kernel
theorem dX8_goesDown_47 : decode cX8_goesDown 47 = .ok (.bipush 10, 2) := by decide +kernel
theorem dX8_goesDown_49 : decode cX8_goesDown 49 = .ok (.dup2, 1) := by decide +kernel
theorem dX8_goesDown_50 : decode cX8_goesDown 50 = .ok (.iaload, 1) := by decide +kernel
theorem dX8_goesDown_51 : decode cX8_goesDown 51 = .ok (.iconst 1, 1) := by decide +kernel
theorem dX8_goesDown_52 : decode cX8_goesDown 52 = .ok (.iadd, 1) := by decide +kernel
theorem dX8_goesDown_53 : decode cX8_goesDown 53 = .ok (.iastore, 1) := by decide +kernel
theorem dX8_goesDown_54 : decode cX8_goesDown 54 = .ok (.aload_n 0, 1) := by decide +kernel
theorem dX8_goesDown_55 : decode cX8_goesDown 55 = .ok (.bipush 92, 2) := by decide +kernel
theorem dX8_goesDown_57 : decode cX8_goesDown 57 = .ok (.iload_n 1, 1) := by decide +kernel
theorem dX8_goesDown_58 : decode cX8_goesDown 58 = .ok (.iadd, 1) := by decide +kernel
theorem dX8_goesDown_59 : decode cX8_goesDown 59 = .ok (.dup2, 1) := by decide +kernel
theorem dX8_goesDown_60 : decode cX8_goesDown 60 = .ok (.iaload, 1) := by decide +kernel
theorem dX8_goesDown_61 : decode cX8_goesDown 61 = .ok (.iconst 1, 1) := by decide +kernel
theorem dX8_goesDown_62 : decode cX8_goesDown 62 = .ok (.iadd, 1) := by decide +kernel
theorem dX8_goesDown_63 : decode cX8_goesDown 63 = .ok (.iastore, 1) := by decide +kernel
theorem dX8_goesDown_64 : decode cX8_goesDown 64 = .ok (.return_, 1) := by decide +kernel
theorem dX8_goesDown_65 : decode cX8_goesDown 65 = .ok (.aload_n 0, 1) := by decide +kernel
theorem dX8_goesDown_66 : decode cX8_goesDown 66 = .ok (.bipush 9, 2) := by decide +kernel
theorem dX8_goesDown_68 : decode cX8_goesDown 68 = .ok (.dup2, 1) := by decide +kernel
theorem dX8_goesDown_69 : decode cX8_goesDown 69 = .ok (.iaload, 1) := by decide +kernel
theorem dX8_goesDown_70 : decode cX8_goesDown 70 = .ok (.iload_n 3, 1) := by decide +kernel
theorem dX8_goesDown_71 : decode cX8_goesDown 71 = .ok (.ifCond .eq 7, 3) := by decide +kernel
theorem dX8_goesDown_74 : decode cX8_goesDown 74 = .ok (.iconst 1, 1) := by decide +kernel
theorem dX8_goesDown_75 : decode cX8_goesDown 75 = .ok (.goto 4, 3) := by decide +kernel
theorem dX8_goesDown_78 : decode cX8_goesDown 78 = .ok (.iconst 0, 1) := by decide +kernel
theorem dX8_goesDown_79 : decode cX8_goesDown 79 = .ok (.iadd, 1) := by decide +kernel
theorem dX8_goesDown_80 : decode cX8_goesDown 80 = .ok (.iastore, 1) := by decide +kernel
theorem dX8_goesDown_81 : decode cX8_goesDown 81 = .ok (.aload_n 0, 1) := by decide +kernel
theorem dX8_goesDown_82 : decode cX8_goesDown 82 = .ok (.bipush 8, 2) := by decide +kernel
theorem dX8_goesDown_84 : decode cX8_goesDown 84 = .ok (.dup2, 1) := by decide +kernel
theorem dX8_goesDown_85 : decode cX8_goesDown 85 = .ok (.iaload, 1) := by decide +kernel
theorem dX8_goesDown_86 : decode cX8_goesDown 86 = .ok (.iload_n 3, 1) := by decide +kernel
theorem dX8_goesDown_87 : decode cX8_goesDown 87 = .ok (.ifCond .eq 7, 3) := by decide +kernel
theorem dX8_goesDown_90 : decode cX8_goesDown 90 = .ok (.iconst 0, 1) := by decide +kernel
theorem dX8_goesDown_91 : decode cX8_goesDown 91 = .ok (.goto 4, 3) := by decide +kernel
theorem dX8_goesDown_94 : decode cX8_goesDown 94 = .ok (.iconst 1, 1) := by decide +kernel
theorem dX8_goesDown_95 : decode cX8_goesDown 95 = .ok (.iadd, 1) := by decide +kernel
theorem dX8_goesDown_96 : decode cX8_goesDown 96 = .ok (.iastore, 1) := by decide +kernel
theorem dX8_goesDown_97 : decode cX8_goesDown 97 = .ok (.aload_n 0, 1) := by decide +kernel
theorem dX8_goesDown_98 : decode cX8_goesDown 98 = .ok (.bipush 116, 2) := by decide +kernel
theorem dX8_goesDown_100 : decode cX8_goesDown 100 = .ok (.aload_n 0, 1) := by decide +kernel
theorem dX8_goesDown_101 : decode cX8_goesDown 101 = .ok (.bipush 6, 2) := by decide +kernel
theorem dX8_goesDown_103 : decode cX8_goesDown 103 = .ok (.iaload, 1) := by decide +kernel
theorem dX8_goesDown_104 : decode cX8_goesDown 104 = .ok (.iadd, 1) := by decide +kernel
theorem dX8_goesDown_105 : decode cX8_goesDown 105 = .ok (.iload_n 1, 1) := by decide +kernel
theorem dX8_goesDown_106 : decode cX8_goesDown 106 = .ok (.iastore, 1) := by decide +kernel
theorem dX8_goesDown_107 : decode cX8_goesDown 107 = .ok (.aload_n 0, 1) := by decide +kernel
theorem dX8_goesDown_108 : decode cX8_goesDown 108 = .ok (.bipush 6, 2) := by decide +kernel
theorem dX8_goesDown_110 : decode cX8_goesDown 110 = .ok (.dup2, 1) := by decide +kernel
theorem dX8_goesDown_111 : decode cX8_goesDown 111 = .ok (.iaload, 1) := by decide +kernel
theorem dX8_goesDown_112 : decode cX8_goesDown 112 = .ok (.iconst 1, 1) := by decide +kernel
theorem dX8_goesDown_113 : decode cX8_goesDown 113 = .ok (.iadd, 1) := by decide +kernel
theorem dX8_goesDown_114 : decode cX8_goesDown 114 = .ok (.iastore, 1) := by decide +kernel
theorem dX8_goesDown_115 : decode cX8_goesDown 115 = .ok (.aload_n 0, 1) := by decide +kernel
theorem dX8_goesDown_116 : decode cX8_goesDown 116 = .ok (.iconst 4, 1) := by decide +kernel
theorem dX8_goesDown_117 : decode cX8_goesDown 117 = .ok (.iload_n 2, 1) := by decide +kernel
theorem dX8_goesDown_118 : decode cX8_goesDown 118 = .ok (.iastore, 1) := by decide +kernel
theorem dX8_goesDown_119 : decode cX8_goesDown 119 = .ok (.aload_n 0, 1) := by decide +kernel
theorem dX8_goesDown_120 : decode cX8_goesDown 120 = .ok (.bipush 11, 2) := by decide +kernel
theorem dX8_goesDown_122 : decode cX8_goesDown 122 = .ok (.aload_n 0, 1) := by decide +kernel
theorem dX8_goesDown_123 : decode cX8_goesDown 123 = .ok (.bipush 11, 2) := by decide +kernel
theorem dX8_goesDown_125 : decode cX8_goesDown 125 = .ok (.iaload, 1) := by decide +kernel
theorem dX8_goesDown_126 : decode cX8_goesDown 126 = .ok (.aload_n 0, 1) := by decide +kernel
theorem dX8_goesDown_127 : decode cX8_goesDown 127 = .ok (.bipush 6, 2) := by decide +kernel
theorem dX8_goesDown_129 : decode cX8_goesDown 129 = .ok (.iaload, 1) := by decide +kernel
theorem dX8_goesDown_130 : decode cX8_goesDown 130 = .ok (.invokestatic 124, 3) := by decide +kernel
theorem dX8_goesDown_133 : decode cX8_goesDown 133 = .ok (.iastore, 1) := by decide +kernel
theorem dX8_goesDown_134 : decode cX8_goesDown 134 = .ok (.return_, 1) := by decide +kernel
theorem dX8_goesUp_0 : decode cX8_goesUp 0 = .ok (.aload_n 0, 1) := by decide +kernel
theorem dX8_goesUp_1 : decode cX8_goesUp 1 = .ok (.bipush 6, 2) := by decide +kernel
theorem dX8_goesUp_3 : decode cX8_goesUp 3 = .ok (.iaload, 1) := by decide +kernel
theorem dX8_goesUp_4 : decode cX8_goesUp 4 = .ok (.ifCond .ne 9, 3) := by decide +kernel
theorem dX8_goesUp_7 : decode cX8_goesUp 7 = .ok (.aload_n 0, 1) := by decide +kernel
theorem dX8_goesUp_8 : decode cX8_goesUp 8 = .ok (.iconst 4, 1) := by decide +kernel
theorem dX8_goesUp_9 : decode cX8_goesUp 9 = .ok (.bipush (-5), 2) := by decide +kernel
theorem dX8_goesUp_11 : decode cX8_goesUp 11 = .ok (.iastore, 1) := by decide +kernel
theorem dX8_goesUp_12 : decode cX8_goesUp 12 = .ok (.return_, 1) := by decide +kernel
theorem dX8_goesUp_13 : decode cX8_goesUp 13 = .ok (.aload_n 0, 1) := by decide +kernel
theorem dX8_goesUp_14 : decode cX8_goesUp 14 = .ok (.bipush 6, 2) := by decide +kernel
theorem dX8_goesUp_16 : decode cX8_goesUp 16 = .ok (.dup2, 1) := by decide +kernel
theorem dX8_goesUp_17 : decode cX8_goesUp 17 = .ok (.iaload, 1) := by decide +kernel
theorem dX8_goesUp_18 : decode cX8_goesUp 18 = .ok (.iconst 1, 1) := by decide +kernel
theorem dX8_goesUp_19 : decode cX8_goesUp 19 = .ok (.isub, 1) := by decide +kernel
theorem dX8_goesUp_20 : decode cX8_goesUp 20 = .ok (.iastore, 1) := by decide +kernel
theorem dX8_goesUp_21 : decode cX8_goesUp 21 = .ok (.aload_n 0, 1) := by decide +kernel
theorem dX8_goesUp_22 : decode cX8_goesUp 22 = .ok (.iconst 4, 1) := by decide +kernel
theorem dX8_goesUp_23 : decode cX8_goesUp 23 = .ok (.aload_n 0, 1) := by decide +kernel
theorem dX8_goesUp_24 : decode cX8_goesUp 24 = .ok (.bipush 116, 2) := by decide +kernel
theorem dX8_goesUp_26 : decode cX8_goesUp 26 = .ok (.aload_n 0, 1) := by decide +kernel
theorem dX8_goesUp_27 : decode cX8_goesUp 27 = .ok (.bipush 6, 2) := by decide +kernel
theorem dX8_goesUp_29 : decode cX8_goesUp 29 = .ok (.iaload, 1) := by decide +kernel
theorem dX8_goesUp_30 : decode cX8_goesUp 30 = .ok (.iadd, 1) := by decide +kernel
theorem dX8_goesUp_31 : decode cX8_goesUp 31 = .ok (.iaload, 1) := by decide +kernel
theorem dX8_goesUp_32 : decode cX8_goesUp 32 = .ok (.iastore, 1) := by decide +kernel
theorem dX8_goesUp_33 : decode cX8_goesUp 33 = .ok (.aload_n 0, 1) := by decide +kernel
theorem dX8_goesUp_34 : decode cX8_goesUp 34 = .ok (.bipush 92, 2) := by decide +kernel
theorem dX8_goesUp_36 : decode cX8_goesUp 36 = .ok (.aload_n 0, 1) := by decide +kernel
theorem dX8_goesUp_37 : decode cX8_goesUp 37 = .ok (.iconst 4, 1) := by decide +kernel
theorem dX8_goesUp_38 : decode cX8_goesUp 38 = .ok (.iaload, 1) := by decide +kernel
theorem dX8_goesUp_39 : decode cX8_goesUp 39 = .ok (.iadd, 1) := by decide +kernel
theorem dX8_goesUp_40 : decode cX8_goesUp 40 = .ok (.dup2, 1) := by decide +kernel
theorem dX8_goesUp_41 : decode cX8_goesUp 41 = .ok (.iaload, 1) := by decide +kernel
theorem dX8_goesUp_42 : decode cX8_goesUp 42 = .ok (.iconst 1, 1) := by decide +kernel
theorem dX8_goesUp_43 : decode cX8_goesUp 43 = .ok (.iadd, 1) := by decide +kernel
theorem dX8_goesUp_44 : decode cX8_goesUp 44 = .ok (.iastore, 1) := by decide +kernel
theorem dX8_goesUp_45 : decode cX8_goesUp 45 = .ok (.return_, 1) := by decide +kernel
theorem dX8_steps_0 : decode cX8_steps 0 = .ok (.aload_n 0, 1) := by decide +kernel
theorem dX8_steps_1 : decode cX8_steps 1 = .ok (.iconst 4, 1) := by decide +kernel
theorem dX8_steps_2 : decode cX8_steps 2 = .ok (.iaload, 1) := by decide +kernel
theorem dX8_steps_3 : decode cX8_steps 3 = .ok (.istore_n 1, 1) := by decide +kernel
theorem dX8_steps_4 : decode cX8_steps 4 = .ok (.aload_n 0, 1) := by decide +kernel
theorem dX8_steps_5 : decode cX8_steps 5 = .ok (.bipush 7, 2) := by decide +kernel
theorem dX8_steps_7 : decode cX8_steps 7 = .ok (.dup2, 1) := by decide +kernel
theorem dX8_steps_8 : decode cX8_steps 8 = .ok (.iaload, 1) := by decide +kernel
theorem dX8_steps_9 : decode cX8_steps 9 = .ok (.iconst 1, 1) := by decide +kernel
theorem dX8_steps_10 : decode cX8_steps 10 = .ok (.iadd, 1) := by decide +kernel
theorem dX8_steps_11 : decode cX8_steps 11 = .ok (.iastore, 1) := by decide +kernel
theorem dX8_steps_12 : decode cX8_steps 12 = .ok (.iload_n 1, 1) := by decide +kernel
theorem dX8_steps_13 : decode cX8_steps 13 = .ok (.ifCond .ge 10, 3) := by decide +kernel
theorem dX8_steps_16 : decode cX8_steps 16 = .ok (.aload_n 0, 1) := by decide +kernel
theorem dX8_steps_17 : decode cX8_steps 17 = .ok (.invokestatic 191, 3) := by decide +kernel
theorem dX8_steps_20 : decode cX8_steps 20 = .ok (.goto 71, 3) := by decide +kernel
theorem dX8_steps_23 : decode cX8_steps 23 = .ok (.aload_n 0, 1) := by decide +kernel
theorem dX8_steps_24 : decode cX8_steps 24 = .ok (.bipush 92, 2) := by decide +kernel
theorem dX8_steps_26 : decode cX8_steps 26 = .ok (.iload_n 1, 1) := by decide +kernel
theorem dX8_steps_27 : decode cX8_steps 27 = .ok (.iadd, 1) := by decide +kernel
theorem dX8_steps_28 : decode cX8_steps 28 = .ok (.iaload, 1) := by decide +kernel
theorem dX8_steps_29 : decode cX8_steps 29 = .ok (.aload_n 0, 1) := by decide +kernel
theorem dX8_steps_30 : decode cX8_steps 30 = .ok (.bipush 68, 2) := by decide +kernel
theorem dX8_steps_32 : decode cX8_steps 32 = .ok (.iload_n 1, 1) := by decide +kernel
theorem dX8_steps_33 : decode cX8_steps 33 = .ok (.iadd, 1) := by decide +kernel
theorem dX8_steps_34 : decode cX8_steps 34 = .ok (.iaload, 1) := by decide +kernel
theorem dX8_steps_35 : decode cX8_steps 35 = .ok (.if_icmp .ge 52, 3) := by decide +kernel
theorem dX8_steps_38 : decode cX8_steps 38 = .ok (.aload_n 0, 1) := by decide +kernel
theorem dX8_steps_39 : decode cX8_steps 39 = .ok (.iload_n 1, 1) := by decide +kernel
theorem dX8_steps_40 : decode cX8_steps 40 = .ok (.aload_n 0, 1) := by decide +kernel
theorem dX8_steps_41 : decode cX8_steps 41 = .ok (.bipush 92, 2) := by decide +kernel
theorem dX8_steps_43 : decode cX8_steps 43 = .ok (.iload_n 1, 1) := by decide +kernel
theorem dX8_steps_44 : decode cX8_steps 44 = .ok (.iadd, 1) := by decide +kernel
theorem dX8_steps_45 : decode cX8_steps 45 = .ok (.iaload, 1) := by decide +kernel
theorem dX8_steps_46 : decode cX8_steps 46 = .ok (.invokestatic 85, 3) := by decide +kernel
theorem dX8_steps_49 : decode cX8_steps 49 = .ok (.istore_n 2, 1) := by decide +kernel
theorem dX8_steps_50 : decode cX8_steps 50 = .ok (.iload_n 2, 1) := by decide +kernel
theorem dX8_steps_51 : decode cX8_steps 51 = .ok (.ifCond .lt 23, 3) := by decide +kernel
theorem dX8_steps_54 : decode cX8_steps 54 = .ok (.aload_n 0, 1) := by decide +kernel
theorem dX8_steps_55 : decode cX8_steps 55 = .ok (.bipush 12, 2) := by decide +kernel
theorem dX8_steps_57 : decode cX8_steps 57 = .ok (.iaload, 1) := by decide +kernel
theorem dX8_steps_58 : decode cX8_steps 58 = .ok (.iload_n 2, 1) := by decide +kernel
theorem dX8_steps_59 : decode cX8_steps 59 = .ok (.invokestatic 61, 3) := by decide +kernel
theorem dX8_steps_62 : decode cX8_steps 62 = .ok (.ifCond .ne 12, 3) := by decide +kernel
theorem dX8_steps_65 : decode cX8_steps 65 = .ok (.aload_n 0, 1) := by decide +kernel
theorem dX8_steps_66 : decode cX8_steps 66 = .ok (.iload_n 1, 1) := by decide +kernel
theorem dX8_steps_67 : decode cX8_steps 67 = .ok (.iload_n 2, 1) := by decide +kernel
theorem dX8_steps_68 : decode cX8_steps 68 = .ok (.invokestatic 195, 3) := by decide +kernel
theorem dX8_steps_71 : decode cX8_steps 71 = .ok (.goto 13, 3) := by decide +kernel
theorem dX8_steps_74 : decode cX8_steps 74 = .ok (.aload_n 0, 1) := by decide +kernel
theorem dX8_steps_75 : decode cX8_steps 75 = .ok (.bipush 92, 2) := by decide +kernel
theorem dX8_steps_77 : decode cX8_steps 77 = .ok (.iload_n 1, 1) := by decide +kernel
theorem dX8_steps_78 : decode cX8_steps 78 = .ok (.iadd, 1) := by decide +kernel
theorem dX8_steps_79 : decode cX8_steps 79 = .ok (.dup2, 1) := by decide +kernel
theorem dX8_steps_80 : decode cX8_steps 80 = .ok (.iaload, 1) := by decide +kernel
theorem dX8_steps_81 : decode cX8_steps 81 = .ok (.iconst 1, 1) := by decide +kernel
theorem dX8_steps_82 : decode cX8_steps 82 = .ok (.iadd, 1) := by decide +kernel
theorem dX8_steps_83 : decode cX8_steps 83 = .ok (.iastore, 1) := by decide +kernel
theorem dX8_steps_84 : decode cX8_steps 84 = .ok (.goto 7, 3) := by decide +kernel
theorem dX8_steps_87 : decode cX8_steps 87 = .ok (.aload_n 0, 1) := by decide +kernel
theorem dX8_steps_88 : decode cX8_steps 88 = .ok (.invokestatic 199, 3) := by decide +kernel
theorem dX8_steps_91 : decode cX8_steps 91 = .ok (.return_, 1) := by decide +kernel
theorem dX8_goes_0 : decode cX8_goes 0 = .ok (.iconst 0, 1) := by decide +kernel
theorem dX8_goes_1 : decode cX8_goes 1 = .ok (.istore_n 2, 1) := by decide +kernel
theorem dX8_goes_2 : decode cX8_goes 2 = .ok (.iload_n 2, 1) := by decide +kernel
theorem dX8_goes_3 : decode cX8_goes 3 = .ok (.iload_n 1, 1) := by decide +kernel
theorem dX8_goes_4 : decode cX8_goes 4 = .ok (.if_icmp .ge 20, 3) := by decide +kernel
theorem dX8_goes_7 : decode cX8_goes 7 = .ok (.aload_n 0, 1) := by decide +kernel
theorem dX8_goes_8 : decode cX8_goes 8 = .ok (.iconst 2, 1) := by decide +kernel
theorem dX8_goes_9 : decode cX8_goes 9 = .ok (.iaload, 1) := by decide +kernel
theorem dX8_goes_10 : decode cX8_goes 10 = .ok (.iconst 1, 1) := by decide +kernel
theorem dX8_goes_11 : decode cX8_goes 11 = .ok (.if_icmp .ne 13, 3) := by decide +kernel
theorem dX8_goes_14 : decode cX8_goes 14 = .ok (.aload_n 0, 1) := by decide +kernel
theorem dX8_goes_15 : decode cX8_goes 15 = .ok (.invokestatic 202, 3) := by decide +kernel
theorem dX8_goes_18 : decode cX8_goes 18 = .ok (.iinc 2 1, 3) := by decide +kernel
theorem dX8_goes_21 : decode cX8_goes 21 = .ok (.goto (-19), 3) := by decide +kernel
theorem dX8_goes_24 : decode cX8_goes 24 = .ok (.iload_n 2, 1) := by decide +kernel
theorem dX8_goes_25 : decode cX8_goes 25 = .ok (.ireturn, 1) := by decide +kernel
theorem dX8_there_0 : decode cX8_there 0 = .ok (.aload_n 0, 1) := by decide +kernel
theorem dX8_there_1 : decode cX8_there 1 = .ok (.getfield 11, 3) := by decide +kernel
theorem dX8_there_4 : decode cX8_there 4 = .ok (.iconst 1, 1) := by decide +kernel
theorem dX8_there_5 : decode cX8_there 5 = .ok (.iaload, 1) := by decide +kernel
theorem dX8_there_6 : decode cX8_there 6 = .ok (.invokestatic 205, 3) := by decide +kernel
theorem dX8_there_9 : decode cX8_there 9 = .ok (.ireturn, 1) := by decide +kernel
theorem dX8_begin_0 : decode cX8_begin 0 = .ok (.iload_n 1, 1) := by decide +kernel
theorem dX8_begin_1 : decode cX8_begin 1 = .ok (.i2l, 1) := by decide +kernel
theorem dX8_begin_2 : decode cX8_begin 2 = .ok (.lconst 0, 1) := by decide +kernel
theorem dX8_begin_3 : decode cX8_begin 3 = .ok (.ldc2_w 210, 3) := by decide +kernel
theorem dX8_begin_6 : decode cX8_begin 6 = .ok (.invokestatic 57, 3) := by decide +kernel
theorem dX8_begin_9 : decode cX8_begin 9 = .ok (.ifCond .ne 6, 3) := by decide +kernel
theorem dX8_begin_12 : decode cX8_begin 12 = .ok (.bipush (-2), 2) := by decide +kernel
theorem dX8_begin_14 : decode cX8_begin 14 = .ok (.ireturn, 1) := by decide +kernel
theorem dX8_begin_15 : decode cX8_begin 15 = .ok (.aload_n 0, 1) := by decide +kernel
theorem dX8_begin_16 : decode cX8_begin 16 = .ok (.getfield 11, 3) := by decide +kernel
theorem dX8_begin_19 : decode cX8_begin 19 = .ok (.iconst 2, 1) := by decide +kernel
theorem dX8_begin_20 : decode cX8_begin 20 = .ok (.iaload, 1) := by decide +kernel
theorem dX8_begin_21 : decode cX8_begin 21 = .ok (.iconst 1, 1) := by decide +kernel
theorem dX8_begin_22 : decode cX8_begin 22 = .ok (.if_icmp .ne 6, 3) := by decide +kernel
theorem dX8_begin_25 : decode cX8_begin 25 = .ok (.bipush (-3), 2) := by decide +kernel
theorem dX8_begin_27 : decode cX8_begin 27 = .ok (.ireturn, 1) := by decide +kernel
theorem dX8_begin_28 : decode cX8_begin 28 = .ok (.aload_n 0, 1) := by decide +kernel
theorem dX8_begin_29 : decode cX8_begin 29 = .ok (.getfield 11, 3) := by decide +kernel
theorem dX8_begin_32 : decode cX8_begin 32 = .ok (.iload_n 1, 1) := by decide +kernel
theorem dX8_begin_33 : decode cX8_begin 33 = .ok (.invokestatic 212, 3) := by decide +kernel
theorem dX8_begin_36 : decode cX8_begin 36 = .ok (.aload_n 0, 1) := by decide +kernel
theorem dX8_begin_37 : decode cX8_begin 37 = .ok (.invokevirtual 215, 3) := by decide +kernel
theorem dX8_begin_40 : decode cX8_begin 40 = .ok (.ireturn, 1) := by decide +kernel
theorem dX8_step_0 : decode cX8_step 0 = .ok (.iload_n 1, 1) := by decide +kernel
theorem dX8_step_1 : decode cX8_step 1 = .ok (.i2l, 1) := by decide +kernel
theorem dX8_step_2 : decode cX8_step 2 = .ok (.lconst 0, 1) := by decide +kernel
theorem dX8_step_3 : decode cX8_step 3 = .ok (.ldc2_w 219, 3) := by decide +kernel
theorem dX8_step_6 : decode cX8_step 6 = .ok (.invokestatic 57, 3) := by decide +kernel
theorem dX8_step_9 : decode cX8_step 9 = .ok (.ifCond .ne 6, 3) := by decide +kernel
theorem dX8_step_12 : decode cX8_step 12 = .ok (.bipush (-2), 2) := by decide +kernel
theorem dX8_step_14 : decode cX8_step 14 = .ok (.ireturn, 1) := by decide +kernel
theorem dX8_step_15 : decode cX8_step 15 = .ok (.aload_n 0, 1) := by decide +kernel
theorem dX8_step_16 : decode cX8_step 16 = .ok (.getfield 11, 3) := by decide +kernel
theorem dX8_step_19 : decode cX8_step 19 = .ok (.iconst 2, 1) := by decide +kernel
theorem dX8_step_20 : decode cX8_step 20 = .ok (.iaload, 1) := by decide +kernel
theorem dX8_step_21 : decode cX8_step 21 = .ok (.ifCond .ne 8, 3) := by decide +kernel
theorem dX8_step_24 : decode cX8_step 24 = .ok (.bipush (-3), 2) := by decide +kernel
theorem dX8_step_26 : decode cX8_step 26 = .ok (.goto 11, 3) := by decide +kernel
theorem dX8_step_29 : decode cX8_step 29 = .ok (.aload_n 0, 1) := by decide +kernel
theorem dX8_step_30 : decode cX8_step 30 = .ok (.getfield 11, 3) := by decide +kernel
theorem dX8_step_33 : decode cX8_step 33 = .ok (.iload_n 1, 1) := by decide +kernel
theorem dX8_step_34 : decode cX8_step 34 = .ok (.invokestatic 221, 3) := by decide +kernel
theorem dX8_step_37 : decode cX8_step 37 = .ok (.ireturn, 1) := by decide +kernel
theorem dX8_leave_0 : decode cX8_leave 0 = .ok (.aload_n 0, 1) := by decide +kernel
theorem dX8_leave_1 : decode cX8_leave 1 = .ok (.getfield 11, 3) := by decide +kernel
theorem dX8_leave_4 : decode cX8_leave 4 = .ok (.iconst 2, 1) := by decide +kernel
theorem dX8_leave_5 : decode cX8_leave 5 = .ok (.iaload, 1) := by decide +kernel
theorem dX8_leave_6 : decode cX8_leave 6 = .ok (.ifCond .ne 6, 3) := by decide +kernel
theorem dX8_leave_9 : decode cX8_leave 9 = .ok (.bipush (-3), 2) := by decide +kernel
theorem dX8_leave_11 : decode cX8_leave 11 = .ok (.ireturn, 1) := by decide +kernel
theorem dX8_leave_12 : decode cX8_leave 12 = .ok (.aload_n 0, 1) := by decide +kernel
theorem dX8_leave_13 : decode cX8_leave 13 = .ok (.getfield 11, 3) := by decide +kernel
theorem dX8_leave_16 : decode cX8_leave 16 = .ok (.invokestatic 129, 3) := by decide +kernel
theorem dX8_leave_19 : decode cX8_leave 19 = .ok (.istore_n 1, 1) := by decide +kernel
theorem dX8_leave_20 : decode cX8_leave 20 = .ok (.aload_n 0, 1) := by decide +kernel
theorem dX8_leave_21 : decode cX8_leave 21 = .ok (.getfield 11, 3) := by decide +kernel
theorem dX8_leave_24 : decode cX8_leave 24 = .ok (.iconst 2, 1) := by decide +kernel
theorem dX8_leave_25 : decode cX8_leave 25 = .ok (.iconst 0, 1) := by decide +kernel
theorem dX8_leave_26 : decode cX8_leave 26 = .ok (.iastore, 1) := by decide +kernel
theorem dX8_leave_27 : decode cX8_leave 27 = .ok (.iload_n 1, 1) := by decide +kernel
theorem dX8_leave_28 : decode cX8_leave 28 = .ok (.ireturn, 1) := by decide +kernel
theorem dX8_sweep_0 : decode cX8_sweep 0 = .ok (.aload_n 0, 1) := by decide +kernel
theorem dX8_sweep_1 : decode cX8_sweep 1 = .ok (.getfield 11, 3) := by decide +kernel
theorem dX8_sweep_4 : decode cX8_sweep 4 = .ok (.bipush 15, 2) := by decide +kernel
theorem dX8_sweep_6 : decode cX8_sweep 6 = .ok (.iaload, 1) := by decide +kernel
theorem dX8_sweep_7 : decode cX8_sweep 7 = .ok (.ifCond .ne 6, 3) := by decide +kernel
theorem dX8_sweep_10 : decode cX8_sweep 10 = .ok (.bipush (-3), 2) := by decide +kernel
theorem dX8_sweep_12 : decode cX8_sweep 12 = .ok (.ireturn, 1) := by decide +kernel
theorem dX8_sweep_13 : decode cX8_sweep 13 = .ok (.aload_n 0, 1) := by decide +kernel
theorem dX8_sweep_14 : decode cX8_sweep 14 = .ok (.getfield 11, 3) := by decide +kernel
theorem dX8_sweep_17 : decode cX8_sweep 17 = .ok (.iconst 1, 1) := by decide +kernel
theorem dX8_sweep_18 : decode cX8_sweep 18 = .ok (.iaload, 1) := by decide +kernel
theorem dX8_sweep_19 : decode cX8_sweep 19 = .ok (.aload_n 0, 1) := by decide +kernel
theorem dX8_sweep_20 : decode cX8_sweep 20 = .ok (.getfield 11, 3) := by decide +kernel
theorem dX8_sweep_23 : decode cX8_sweep 23 = .ok (.bipush 12, 2) := by decide +kernel
theorem dX8_sweep_25 : decode cX8_sweep 25 = .ok (.iaload, 1) := by decide +kernel
theorem dX8_sweep_26 : decode cX8_sweep 26 = .ok (.iconst (-1), 1) := by decide +kernel
theorem dX8_sweep_27 : decode cX8_sweep 27 = .ok (.ixor, 1) := by decide +kernel
theorem dX8_sweep_28 : decode cX8_sweep 28 = .ok (.iand, 1) := by decide +kernel
theorem dX8_sweep_29 : decode cX8_sweep 29 = .ok (.istore_n 1, 1) := by decide +kernel
theorem dX8_sweep_30 : decode cX8_sweep 30 = .ok (.aload_n 0, 1) := by decide +kernel
theorem dX8_sweep_31 : decode cX8_sweep 31 = .ok (.getfield 11, 3) := by decide +kernel
theorem dX8_sweep_34 : decode cX8_sweep 34 = .ok (.iconst 1, 1) := by decide +kernel
theorem dX8_sweep_35 : decode cX8_sweep 35 = .ok (.dup2, 1) := by decide +kernel
theorem dX8_sweep_36 : decode cX8_sweep 36 = .ok (.iaload, 1) := by decide +kernel
theorem dX8_sweep_37 : decode cX8_sweep 37 = .ok (.aload_n 0, 1) := by decide +kernel
theorem dX8_sweep_38 : decode cX8_sweep 38 = .ok (.getfield 11, 3) := by decide +kernel
theorem dX8_sweep_41 : decode cX8_sweep 41 = .ok (.bipush 12, 2) := by decide +kernel
theorem dX8_sweep_43 : decode cX8_sweep 43 = .ok (.iaload, 1) := by decide +kernel
theorem dX8_sweep_44 : decode cX8_sweep 44 = .ok (.iand, 1) := by decide +kernel
theorem dX8_sweep_45 : decode cX8_sweep 45 = .ok (.iastore, 1) := by decide +kernel
theorem dX8_sweep_46 : decode cX8_sweep 46 = .ok (.iconst 0, 1) := by decide +kernel
theorem dX8_sweep_47 : decode cX8_sweep 47 = .ok (.istore_n 2, 1) := by decide +kernel
theorem dX8_sweep_48 : decode cX8_sweep 48 = .ok (.iload_n 2, 1) := by decide +kernel
theorem dX8_sweep_49 : decode cX8_sweep 49 = .ok (.sipush 144, 3) := by decide +kernel
theorem dX8_sweep_52 : decode cX8_sweep 52 = .ok (.if_icmp .ge 64, 3) := by decide +kernel
theorem dX8_sweep_55 : decode cX8_sweep 55 = .ok (.aload_n 0, 1) := by decide +kernel
theorem dX8_sweep_56 : decode cX8_sweep 56 = .ok (.getfield 11, 3) := by decide +kernel
theorem dX8_sweep_59 : decode cX8_sweep 59 = .ok (.sipush 140, 3) := by decide +kernel
theorem dX8_sweep_62 : decode cX8_sweep 62 = .ok (.iload_n 2, 1) := by decide +kernel
theorem dX8_sweep_63 : decode cX8_sweep 63 = .ok (.iadd, 1) := by decide +kernel
theorem dX8_sweep_64 : decode cX8_sweep 64 = .ok (.aload_n 0, 1) := by decide +kernel
theorem dX8_sweep_65 : decode cX8_sweep 65 = .ok (.getfield 11, 3) := by decide +kernel
theorem dX8_sweep_68 : decode cX8_sweep 68 = .ok (.sipush 140, 3) := by decide +kernel
theorem dX8_sweep_71 : decode cX8_sweep 71 = .ok (.iload_n 2, 1) := by decide +kernel
theorem dX8_sweep_72 : decode cX8_sweep 72 = .ok (.iadd, 1) := by decide +kernel
theorem dX8_sweep_73 : decode cX8_sweep 73 = .ok (.iaload, 1) := by decide +kernel
theorem dX8_sweep_74 : decode cX8_sweep 74 = .ok (.ifCond .lt 25, 3) := by decide +kernel
theorem dX8_sweep_77 : decode cX8_sweep 77 = .ok (.iload_n 1, 1) := by decide +kernel
theorem dX8_sweep_78 : decode cX8_sweep 78 = .ok (.aload_n 0, 1) := by decide +kernel
theorem dX8_sweep_79 : decode cX8_sweep 79 = .ok (.getfield 11, 3) := by decide +kernel
theorem dX8_sweep_82 : decode cX8_sweep 82 = .ok (.sipush 140, 3) := by decide +kernel
theorem dX8_sweep_85 : decode cX8_sweep 85 = .ok (.iload_n 2, 1) := by decide +kernel
theorem dX8_sweep_86 : decode cX8_sweep 86 = .ok (.iadd, 1) := by decide +kernel
theorem dX8_sweep_87 : decode cX8_sweep 87 = .ok (.iaload, 1) := by decide +kernel
theorem dX8_sweep_88 : decode cX8_sweep 88 = .ok (.invokestatic 61, 3) := by decide +kernel
theorem dX8_sweep_91 : decode cX8_sweep 91 = .ok (.ifCond .eq 8, 3) := by decide +kernel
theorem dX8_sweep_94 : decode cX8_sweep 94 = .ok (.bipush (-5), 2) := by decide +kernel
theorem dX8_sweep_96 : decode cX8_sweep 96 = .ok (.goto 13, 3) := by decide +kernel
theorem dX8_sweep_99 : decode cX8_sweep 99 = .ok (.aload_n 0, 1) := by decide +kernel
theorem dX8_sweep_100 : decode cX8_sweep 100 = .ok (.getfield 11, 3) := by decide +kernel
theorem dX8_sweep_103 : decode cX8_sweep 103 = .ok (.sipush 140, 3) := by decide +kernel
theorem dX8_sweep_106 : decode cX8_sweep 106 = .ok (.iload_n 2, 1) := by decide +kernel
theorem dX8_sweep_107 : decode cX8_sweep 107 = .ok (.iadd, 1) := by decide +kernel
theorem dX8_sweep_108 : decode cX8_sweep 108 = .ok (.iaload, 1) := by decide +kernel
theorem dX8_sweep_109 : decode cX8_sweep 109 = .ok (.iastore, 1) := by decide +kernel
theorem dX8_sweep_110 : decode cX8_sweep 110 = .ok (.iinc 2 1, 3) := by decide +kernel
theorem dX8_sweep_113 : decode cX8_sweep 113 = .ok (.goto (-65), 3) := by decide +kernel
theorem dX8_sweep_116 : decode cX8_sweep 116 = .ok (.iconst 0, 1) := by decide +kernel
theorem dX8_sweep_117 : decode cX8_sweep 117 = .ok (.istore_n 2, 1) := by decide +kernel
theorem dX8_sweep_118 : decode cX8_sweep 118 = .ok (.iload_n 2, 1) := by decide +kernel
theorem dX8_sweep_119 : decode cX8_sweep 119 = .ok (.bipush 24, 2) := by decide +kernel
theorem dX8_sweep_121 : decode cX8_sweep 121 = .ok (.if_icmp .ge 48, 3) := by decide +kernel
theorem dX8_sweep_124 : decode cX8_sweep 124 = .ok (.iconst 0, 1) := by decide +kernel
theorem dX8_sweep_125 : decode cX8_sweep 125 = .ok (.istore_n 3, 1) := by decide +kernel
theorem dX8_sweep_126 : decode cX8_sweep 126 = .ok (.iload_n 1, 1) := by decide +kernel
theorem dX8_sweep_127 : decode cX8_sweep 127 = .ok (.iload_n 2, 1) := by decide +kernel
theorem dX8_sweep_128 : decode cX8_sweep 128 = .ok (.invokestatic 61, 3) := by decide +kernel
theorem dX8_sweep_131 : decode cX8_sweep 131 = .ok (.ifCond .eq 32, 3) := by decide +kernel
theorem dX8_sweep_134 : decode cX8_sweep 134 = .ok (.iload_n 3, 1) := by decide +kernel
theorem dX8_sweep_135 : decode cX8_sweep 135 = .ok (.bipush 6, 2) := by decide +kernel
theorem dX8_sweep_137 : decode cX8_sweep 137 = .ok (.if_icmp .ge 26, 3) := by decide +kernel
theorem dX8_sweep_140 : decode cX8_sweep 140 = .ok (.aload_n 0, 1) := by decide +kernel
theorem dX8_sweep_141 : decode cX8_sweep 141 = .ok (.getfield 11, 3) := by decide +kernel
theorem dX8_sweep_144 : decode cX8_sweep 144 = .ok (.sipush 140, 3) := by decide +kernel
theorem dX8_sweep_147 : decode cX8_sweep 147 = .ok (.bipush 6, 2) := by decide +kernel
theorem dX8_sweep_149 : decode cX8_sweep 149 = .ok (.iload_n 2, 1) := by decide +kernel
theorem dX8_sweep_150 : decode cX8_sweep 150 = .ok (.imul, 1) := by decide +kernel
theorem dX8_sweep_151 : decode cX8_sweep 151 = .ok (.iadd, 1) := by decide +kernel
theorem dX8_sweep_152 : decode cX8_sweep 152 = .ok (.iload_n 3, 1) := by decide +kernel
theorem dX8_sweep_153 : decode cX8_sweep 153 = .ok (.iadd, 1) := by decide +kernel
theorem dX8_sweep_154 : decode cX8_sweep 154 = .ok (.bipush (-5), 2) := by decide +kernel
theorem dX8_sweep_156 : decode cX8_sweep 156 = .ok (.iastore, 1) := by decide +kernel
theorem dX8_sweep_157 : decode cX8_sweep 157 = .ok (.iinc 3 1, 3) := by decide +kernel
theorem dX8_sweep_160 : decode cX8_sweep 160 = .ok (.goto (-34), 3) := by decide +kernel
theorem dX8_sweep_163 : decode cX8_sweep 163 = .ok (.iinc 2 1, 3) := by decide +kernel
theorem dX8_sweep_166 : decode cX8_sweep 166 = .ok (.goto (-48), 3) := by decide +kernel
theorem dX8_sweep_169 : decode cX8_sweep 169 = .ok (.aload_n 0, 1) := by decide +kernel
theorem dX8_sweep_170 : decode cX8_sweep 170 = .ok (.getfield 11, 3) := by decide +kernel
theorem dX8_sweep_173 : decode cX8_sweep 173 = .ok (.bipush 12, 2) := by decide +kernel
theorem dX8_sweep_175 : decode cX8_sweep 175 = .ok (.iconst 0, 1) := by decide +kernel
theorem dX8_sweep_176 : decode cX8_sweep 176 = .ok (.iastore, 1) := by decide +kernel
theorem dX8_sweep_177 : decode cX8_sweep 177 = .ok (.aload_n 0, 1) := by decide +kernel
theorem dX8_sweep_178 : decode cX8_sweep 178 = .ok (.getfield 11, 3) := by decide +kernel
theorem dX8_sweep_181 : decode cX8_sweep 181 = .ok (.bipush 15, 2) := by decide +kernel
theorem dX8_sweep_183 : decode cX8_sweep 183 = .ok (.iconst 0, 1) := by decide +kernel
theorem dX8_sweep_184 : decode cX8_sweep 184 = .ok (.iastore, 1) := by decide +kernel
theorem dX8_sweep_185 : decode cX8_sweep 185 = .ok (.iload_n 1, 1) := by decide +kernel
theorem dX8_sweep_186 : decode cX8_sweep 186 = .ok (.invokestatic 205, 3) := by decide +kernel
theorem dX8_sweep_189 : decode cX8_sweep 189 = .ok (.ireturn, 1) := by decide +kernel
theorem dX8_left_0 : decode cX8_left 0 = .ok (.aload_n 0, 1) := by decide +kernel
theorem dX8_left_1 : decode cX8_left 1 = .ok (.getfield 11, 3) := by decide +kernel
theorem dX8_left_4 : decode cX8_left 4 = .ok (.aload_n 0, 1) := by decide +kernel
theorem dX8_left_5 : decode cX8_left 5 = .ok (.getfield 15, 3) := by decide +kernel
theorem dX8_left_8 : decode cX8_left 8 = .ok (.invokestatic 224, 3) := by decide +kernel
theorem dX8_left_11 : decode cX8_left 11 = .ok (.iconst 0, 1) := by decide +kernel
theorem dX8_left_12 : decode cX8_left 12 = .ok (.istore_n 1, 1) := by decide +kernel
theorem dX8_left_13 : decode cX8_left 13 = .ok (.aload_n 0, 1) := by decide +kernel
theorem dX8_left_14 : decode cX8_left 14 = .ok (.getfield 15, 3) := by decide +kernel
theorem dX8_left_17 : decode cX8_left 17 = .ok (.iconst 2, 1) := by decide +kernel
theorem dX8_left_18 : decode cX8_left 18 = .ok (.iaload, 1) := by decide +kernel
theorem dX8_left_19 : decode cX8_left 19 = .ok (.iconst 1, 1) := by decide +kernel
theorem dX8_left_20 : decode cX8_left 20 = .ok (.if_icmp .ne 16, 3) := by decide +kernel
theorem dX8_left_23 : decode cX8_left 23 = .ok (.aload_n 0, 1) := by decide +kernel
theorem dX8_left_24 : decode cX8_left 24 = .ok (.getfield 15, 3) := by decide +kernel
theorem dX8_left_27 : decode cX8_left 27 = .ok (.invokestatic 202, 3) := by decide +kernel
theorem dX8_left_30 : decode cX8_left 30 = .ok (.iinc 1 1, 3) := by decide +kernel
theorem dX8_left_33 : decode cX8_left 33 = .ok (.goto (-20), 3) := by decide +kernel
theorem dX8_left_36 : decode cX8_left 36 = .ok (.iload_n 1, 1) := by decide +kernel
theorem dX8_left_37 : decode cX8_left 37 = .ok (.ireturn, 1) := by decide +kernel
theorem dX8_told__0 : decode cX8_told_ 0 = .ok (.aload_n 0, 1) := by decide +kernel
theorem dX8_told__1 : decode cX8_told_ 1 = .ok (.getfield 11, 3) := by decide +kernel
theorem dX8_told__4 : decode cX8_told_ 4 = .ok (.iconst 2, 1) := by decide +kernel
theorem dX8_told__5 : decode cX8_told_ 5 = .ok (.iaload, 1) := by decide +kernel
theorem dX8_told__6 : decode cX8_told_ 6 = .ok (.iconst 1, 1) := by decide +kernel
theorem dX8_told__7 : decode cX8_told_ 7 = .ok (.if_icmp .ne 7, 3) := by decide +kernel
theorem dX8_told__10 : decode cX8_told_ 10 = .ok (.iconst 1, 1) := by decide +kernel
theorem dX8_told__11 : decode cX8_told_ 11 = .ok (.goto 4, 3) := by decide +kernel
theorem dX8_told__14 : decode cX8_told_ 14 = .ok (.iconst 0, 1) := by decide +kernel
theorem dX8_told__15 : decode cX8_told_ 15 = .ok (.istore_n 2, 1) := by decide +kernel
theorem dX8_told__16 : decode cX8_told_ 16 = .ok (.iload_n 1, 1) := by decide +kernel
theorem dX8_told__17 : decode cX8_told_ 17 = .ok (.tableswitch 213 0 14 #[75, 80, 96, 104, 112, 120, 128, 136, 144, 152, 160, 168, 173, 198, 205], 75) := by decide +kernel
theorem dX8_told__92 : decode cX8_told_ 92 = .ok (.iload_n 2, 1) := by decide +kernel
theorem dX8_told__93 : decode cX8_told_ 93 = .ok (.invokestatic 106, 3) := by decide +kernel
theorem dX8_told__96 : decode cX8_told_ 96 = .ok (.ireturn, 1) := by decide +kernel
theorem dX8_told__97 : decode cX8_told_ 97 = .ok (.iload_n 2, 1) := by decide +kernel
theorem dX8_told__98 : decode cX8_told_ 98 = .ok (.ifCond .eq 12, 3) := by decide +kernel
theorem dX8_told__101 : decode cX8_told_ 101 = .ok (.aload_n 0, 1) := by decide +kernel
theorem dX8_told__102 : decode cX8_told_ 102 = .ok (.getfield 11, 3) := by decide +kernel
theorem dX8_told__105 : decode cX8_told_ 105 = .ok (.iconst 4, 1) := by decide +kernel
theorem dX8_told__106 : decode cX8_told_ 106 = .ok (.iaload, 1) := by decide +kernel
theorem dX8_told__107 : decode cX8_told_ 107 = .ok (.goto 5, 3) := by decide +kernel
theorem dX8_told__110 : decode cX8_told_ 110 = .ok (.bipush (-5), 2) := by decide +kernel
theorem dX8_told__112 : decode cX8_told_ 112 = .ok (.ireturn, 1) := by decide +kernel
theorem dX8_told__113 : decode cX8_told_ 113 = .ok (.aload_n 0, 1) := by decide +kernel
theorem dX8_told__114 : decode cX8_told_ 114 = .ok (.getfield 11, 3) := by decide +kernel
theorem dX8_told__117 : decode cX8_told_ 117 = .ok (.invokestatic 228, 3) := by decide +kernel
theorem dX8_told__120 : decode cX8_told_ 120 = .ok (.ireturn, 1) := by decide +kernel
theorem dX8_told__121 : decode cX8_told_ 121 = .ok (.aload_n 0, 1) := by decide +kernel
theorem dX8_told__122 : decode cX8_told_ 122 = .ok (.getfield 11, 3) := by decide +kernel
theorem dX8_told__125 : decode cX8_told_ 125 = .ok (.bipush 7, 2) := by decide +kernel
theorem dX8_told__127 : decode cX8_told_ 127 = .ok (.iaload, 1) := by decide +kernel
theorem dX8_told__128 : decode cX8_told_ 128 = .ok (.ireturn, 1) := by decide +kernel
theorem dX8_told__129 : decode cX8_told_ 129 = .ok (.aload_n 0, 1) := by decide +kernel
theorem dX8_told__130 : decode cX8_told_ 130 = .ok (.getfield 11, 3) := by decide +kernel
theorem dX8_told__133 : decode cX8_told_ 133 = .ok (.bipush 8, 2) := by decide +kernel
theorem dX8_told__135 : decode cX8_told_ 135 = .ok (.iaload, 1) := by decide +kernel
theorem dX8_told__136 : decode cX8_told_ 136 = .ok (.ireturn, 1) := by decide +kernel
theorem dX8_told__137 : decode cX8_told_ 137 = .ok (.aload_n 0, 1) := by decide +kernel
theorem dX8_told__138 : decode cX8_told_ 138 = .ok (.getfield 11, 3) := by decide +kernel
theorem dX8_told__141 : decode cX8_told_ 141 = .ok (.bipush 9, 2) := by decide +kernel
theorem dX8_told__143 : decode cX8_told_ 143 = .ok (.iaload, 1) := by decide +kernel
theorem dX8_told__144 : decode cX8_told_ 144 = .ok (.ireturn, 1) := by decide +kernel
theorem dX8_told__145 : decode cX8_told_ 145 = .ok (.aload_n 0, 1) := by decide +kernel
theorem dX8_told__146 : decode cX8_told_ 146 = .ok (.getfield 11, 3) := by decide +kernel
theorem dX8_told__149 : decode cX8_told_ 149 = .ok (.bipush 10, 2) := by decide +kernel
theorem dX8_told__151 : decode cX8_told_ 151 = .ok (.iaload, 1) := by decide +kernel
theorem dX8_told__152 : decode cX8_told_ 152 = .ok (.ireturn, 1) := by decide +kernel
theorem dX8_told__153 : decode cX8_told_ 153 = .ok (.aload_n 0, 1) := by decide +kernel
theorem dX8_told__154 : decode cX8_told_ 154 = .ok (.getfield 11, 3) := by decide +kernel
theorem dX8_told__157 : decode cX8_told_ 157 = .ok (.bipush 11, 2) := by decide +kernel
theorem dX8_told__159 : decode cX8_told_ 159 = .ok (.iaload, 1) := by decide +kernel
theorem dX8_told__160 : decode cX8_told_ 160 = .ok (.ireturn, 1) := by decide +kernel
theorem dX8_told__161 : decode cX8_told_ 161 = .ok (.aload_n 0, 1) := by decide +kernel
theorem dX8_told__162 : decode cX8_told_ 162 = .ok (.getfield 11, 3) := by decide +kernel
theorem dX8_told__165 : decode cX8_told_ 165 = .ok (.bipush 12, 2) := by decide +kernel
theorem dX8_told__167 : decode cX8_told_ 167 = .ok (.iaload, 1) := by decide +kernel
theorem dX8_told__168 : decode cX8_told_ 168 = .ok (.ireturn, 1) := by decide +kernel
theorem dX8_told__169 : decode cX8_told_ 169 = .ok (.aload_n 0, 1) := by decide +kernel
theorem dX8_told__170 : decode cX8_told_ 170 = .ok (.getfield 11, 3) := by decide +kernel
theorem dX8_told__173 : decode cX8_told_ 173 = .ok (.bipush 13, 2) := by decide +kernel
theorem dX8_told__175 : decode cX8_told_ 175 = .ok (.iaload, 1) := by decide +kernel
theorem dX8_told__176 : decode cX8_told_ 176 = .ok (.ireturn, 1) := by decide +kernel
theorem dX8_told__177 : decode cX8_told_ 177 = .ok (.aload_n 0, 1) := by decide +kernel
theorem dX8_told__178 : decode cX8_told_ 178 = .ok (.getfield 11, 3) := by decide +kernel
theorem dX8_told__181 : decode cX8_told_ 181 = .ok (.invokestatic 99, 3) := by decide +kernel
theorem dX8_told__184 : decode cX8_told_ 184 = .ok (.ireturn, 1) := by decide +kernel
theorem dX8_told__185 : decode cX8_told_ 185 = .ok (.aload_n 0, 1) := by decide +kernel
theorem dX8_told__186 : decode cX8_told_ 186 = .ok (.invokevirtual 231, 3) := by decide +kernel
theorem dX8_told__189 : decode cX8_told_ 189 = .ok (.ireturn, 1) := by decide +kernel
theorem dX8_told__190 : decode cX8_told_ 190 = .ok (.iload_n 2, 1) := by decide +kernel
theorem dX8_told__191 : decode cX8_told_ 191 = .ok (.ifCond .eq 22, 3) := by decide +kernel
theorem dX8_told__194 : decode cX8_told_ 194 = .ok (.aload_n 0, 1) := by decide +kernel
theorem dX8_told__195 : decode cX8_told_ 195 = .ok (.getfield 11, 3) := by decide +kernel
theorem dX8_told__198 : decode cX8_told_ 198 = .ok (.bipush 6, 2) := by decide +kernel
theorem dX8_told__200 : decode cX8_told_ 200 = .ok (.iaload, 1) := by decide +kernel
theorem dX8_told__201 : decode cX8_told_ 201 = .ok (.aload_n 0, 1) := by decide +kernel
theorem dX8_told__202 : decode cX8_told_ 202 = .ok (.getfield 11, 3) := by decide +kernel
theorem dX8_told__205 : decode cX8_told_ 205 = .ok (.iconst 3, 1) := by decide +kernel
theorem dX8_told__206 : decode cX8_told_ 206 = .ok (.iaload, 1) := by decide +kernel
theorem dX8_told__207 : decode cX8_told_ 207 = .ok (.invokestatic 234, 3) := by decide +kernel
theorem dX8_told__210 : decode cX8_told_ 210 = .ok (.goto 4, 3) := by decide +kernel
theorem dX8_told__213 : decode cX8_told_ 213 = .ok (.iconst 0, 1) := by decide +kernel
theorem dX8_told__214 : decode cX8_told_ 214 = .ok (.ireturn, 1) := by decide +kernel
theorem dX8_told__215 : decode cX8_told_ 215 = .ok (.aload_n 0, 1) := by decide +kernel
theorem dX8_told__216 : decode cX8_told_ 216 = .ok (.getfield 11, 3) := by decide +kernel
theorem dX8_told__219 : decode cX8_told_ 219 = .ok (.iconst 1, 1) := by decide +kernel
theorem dX8_told__220 : decode cX8_told_ 220 = .ok (.iaload, 1) := by decide +kernel
theorem dX8_told__221 : decode cX8_told_ 221 = .ok (.ireturn, 1) := by decide +kernel
theorem dX8_told__222 : decode cX8_told_ 222 = .ok (.aload_n 0, 1) := by decide +kernel
theorem dX8_told__223 : decode cX8_told_ 223 = .ok (.getfield 11, 3) := by decide +kernel
theorem dX8_told__226 : decode cX8_told_ 226 = .ok (.bipush 15, 2) := by decide +kernel
theorem dX8_told__228 : decode cX8_told_ 228 = .ok (.iaload, 1) := by decide +kernel
theorem dX8_told__229 : decode cX8_told_ 229 = .ok (.ireturn, 1) := by decide +kernel
theorem dX8_told__230 : decode cX8_told_ 230 = .ok (.iload_n 1, 1) := by decide +kernel
theorem dX8_told__231 : decode cX8_told_ 231 = .ok (.i2l, 1) := by decide +kernel
theorem dX8_told__232 : decode cX8_told_ 232 = .ok (.ldc2_w 237, 3) := by decide +kernel
theorem dX8_told__235 : decode cX8_told_ 235 = .ok (.ldc2_w 239, 3) := by decide +kernel
theorem dX8_told__238 : decode cX8_told_ 238 = .ok (.invokestatic 57, 3) := by decide +kernel
theorem dX8_told__241 : decode cX8_told_ 241 = .ok (.ifCond .eq 18, 3) := by decide +kernel
theorem dX8_told__244 : decode cX8_told_ 244 = .ok (.aload_n 0, 1) := by decide +kernel
theorem dX8_told__245 : decode cX8_told_ 245 = .ok (.getfield 11, 3) := by decide +kernel
theorem dX8_told__248 : decode cX8_told_ 248 = .ok (.bipush 16, 2) := by decide +kernel
theorem dX8_told__250 : decode cX8_told_ 250 = .ok (.iload_n 1, 1) := by decide +kernel
theorem dX8_told__251 : decode cX8_told_ 251 = .ok (.iadd, 1) := by decide +kernel
theorem dX8_told__252 : decode cX8_told_ 252 = .ok (.bipush 15, 2) := by decide +kernel
theorem dX8_told__254 : decode cX8_told_ 254 = .ok (.isub, 1) := by decide +kernel
theorem dX8_told__255 : decode cX8_told_ 255 = .ok (.iaload, 1) := by decide +kernel
theorem dX8_told__256 : decode cX8_told_ 256 = .ok (.goto 4, 3) := by decide +kernel
theorem dX8_told__259 : decode cX8_told_ 259 = .ok (.iconst (-1), 1) := by decide +kernel
theorem dX8_told__260 : decode cX8_told_ 260 = .ok (.ireturn, 1) := by decide +kernel
theorem dX8_on_0 : decode cX8_on 0 = .ok (.iload_n 2, 1) := by decide +kernel
theorem dX8_on_1 : decode cX8_on 1 = .ok (.i2l, 1) := by decide +kernel
theorem dX8_on_2 : decode cX8_on 2 = .ok (.lconst 0, 1) := by decide +kernel
theorem dX8_on_3 : decode cX8_on 3 = .ok (.ldc2_w 241, 3) := by decide +kernel
theorem dX8_on_6 : decode cX8_on 6 = .ok (.invokestatic 57, 3) := by decide +kernel
theorem dX8_on_9 : decode cX8_on 9 = .ok (.ifCond .ne 5, 3) := by decide +kernel
theorem dX8_on_12 : decode cX8_on 12 = .ok (.iconst (-1), 1) := by decide +kernel
theorem dX8_on_13 : decode cX8_on 13 = .ok (.ireturn, 1) := by decide +kernel
theorem dX8_on_14 : decode cX8_on 14 = .ok (.iload_n 1, 1) := by decide +kernel
theorem dX8_on_15 : decode cX8_on 15 = .ok (.i2l, 1) := by decide +kernel
theorem dX8_on_16 : decode cX8_on 16 = .ok (.lconst 0, 1) := by decide +kernel
theorem dX8_on_17 : decode cX8_on 17 = .ok (.ldc2_w 243, 3) := by decide +kernel
theorem dX8_on_20 : decode cX8_on 20 = .ok (.invokestatic 57, 3) := by decide +kernel
theorem dX8_on_23 : decode cX8_on 23 = .ok (.ifCond .ne 6, 3) := by decide +kernel
theorem dX8_on_26 : decode cX8_on 26 = .ok (.bipush (-2), 2) := by decide +kernel
theorem dX8_on_28 : decode cX8_on 28 = .ok (.ireturn, 1) := by decide +kernel
theorem dX8_on_29 : decode cX8_on 29 = .ok (.aload_n 0, 1) := by decide +kernel
theorem dX8_on_30 : decode cX8_on 30 = .ok (.getfield 11, 3) := by decide +kernel
theorem dX8_on_33 : decode cX8_on 33 = .ok (.aload_n 0, 1) := by decide +kernel
theorem dX8_on_34 : decode cX8_on 34 = .ok (.getfield 15, 3) := by decide +kernel
theorem dX8_on_37 : decode cX8_on 37 = .ok (.invokestatic 224, 3) := by decide +kernel
theorem dX8_on_40 : decode cX8_on 40 = .ok (.aload_n 0, 1) := by decide +kernel
theorem dX8_on_41 : decode cX8_on 41 = .ok (.getfield 15, 3) := by decide +kernel
theorem dX8_on_44 : decode cX8_on 44 = .ok (.iload_n 1, 1) := by decide +kernel
theorem dX8_on_45 : decode cX8_on 45 = .ok (.invokestatic 221, 3) := by decide +kernel
theorem dX8_on_48 : decode cX8_on 48 = .ok (.istore_n 3, 1) := by decide +kernel
theorem dX8_on_49 : decode cX8_on 49 = .ok (.iload_n 2, 1) := by decide +kernel
theorem dX8_on_50 : decode cX8_on 50 = .ok (.tableswitch 76 0 3 #[30, 52, 60, 68], 30) := by decide +kernel
theorem dX8_on_80 : decode cX8_on 80 = .ok (.aload_n 0, 1) := by decide +kernel
theorem dX8_on_81 : decode cX8_on 81 = .ok (.getfield 15, 3) := by decide +kernel
theorem dX8_on_84 : decode cX8_on 84 = .ok (.iconst 2, 1) := by decide +kernel
theorem dX8_on_85 : decode cX8_on 85 = .ok (.iaload, 1) := by decide +kernel
theorem dX8_on_86 : decode cX8_on 86 = .ok (.iconst 1, 1) := by decide +kernel
theorem dX8_on_87 : decode cX8_on 87 = .ok (.if_icmp .ne 12, 3) := by decide +kernel
theorem dX8_on_90 : decode cX8_on 90 = .ok (.aload_n 0, 1) := by decide +kernel
theorem dX8_on_91 : decode cX8_on 91 = .ok (.getfield 15, 3) := by decide +kernel
theorem dX8_on_94 : decode cX8_on 94 = .ok (.iconst 4, 1) := by decide +kernel
theorem dX8_on_95 : decode cX8_on 95 = .ok (.iaload, 1) := by decide +kernel
theorem dX8_on_96 : decode cX8_on 96 = .ok (.goto 5, 3) := by decide +kernel
theorem dX8_on_99 : decode cX8_on 99 = .ok (.bipush (-5), 2) := by decide +kernel
theorem dX8_on_101 : decode cX8_on 101 = .ok (.ireturn, 1) := by decide +kernel
theorem dX8_on_102 : decode cX8_on 102 = .ok (.aload_n 0, 1) := by decide +kernel
theorem dX8_on_103 : decode cX8_on 103 = .ok (.getfield 15, 3) := by decide +kernel
theorem dX8_on_106 : decode cX8_on 106 = .ok (.invokestatic 228, 3) := by decide +kernel
theorem dX8_on_109 : decode cX8_on 109 = .ok (.ireturn, 1) := by decide +kernel
theorem dX8_on_110 : decode cX8_on 110 = .ok (.aload_n 0, 1) := by decide +kernel
theorem dX8_on_111 : decode cX8_on 111 = .ok (.getfield 15, 3) := by decide +kernel
theorem dX8_on_114 : decode cX8_on 114 = .ok (.bipush 12, 2) := by decide +kernel
theorem dX8_on_116 : decode cX8_on 116 = .ok (.iaload, 1) := by decide +kernel
theorem dX8_on_117 : decode cX8_on 117 = .ok (.ireturn, 1) := by decide +kernel
theorem dX8_on_118 : decode cX8_on 118 = .ok (.aload_n 0, 1) := by decide +kernel
theorem dX8_on_119 : decode cX8_on 119 = .ok (.getfield 15, 3) := by decide +kernel
theorem dX8_on_122 : decode cX8_on 122 = .ok (.invokestatic 129, 3) := by decide +kernel
theorem dX8_on_125 : decode cX8_on 125 = .ok (.ireturn, 1) := by decide +kernel
theorem dX8_on_126 : decode cX8_on 126 = .ok (.aload_n 0, 1) := by decide +kernel
theorem dX8_on_127 : decode cX8_on 127 = .ok (.getfield 15, 3) := by decide +kernel
theorem dX8_on_130 : decode cX8_on 130 = .ok (.bipush 7, 2) := by decide +kernel
theorem dX8_on_132 : decode cX8_on 132 = .ok (.iaload, 1) := by decide +kernel
theorem dX8_on_133 : decode cX8_on 133 = .ok (.ireturn, 1) := by decide +kernel
theorem dX8_needs_0 : decode cX8_needs 0 = .ok (.aload_n 0, 1) := by decide +kernel
theorem dX8_needs_1 : decode cX8_needs 1 = .ok (.getfield 11, 3) := by decide +kernel
theorem dX8_needs_4 : decode cX8_needs 4 = .ok (.aload_n 0, 1) := by decide +kernel
theorem dX8_needs_5 : decode cX8_needs 5 = .ok (.getfield 15, 3) := by decide +kernel
theorem dX8_needs_8 : decode cX8_needs 8 = .ok (.invokestatic 224, 3) := by decide +kernel
theorem dX8_needs_11 : decode cX8_needs 11 = .ok (.aload_n 0, 1) := by decide +kernel
theorem dX8_needs_12 : decode cX8_needs 12 = .ok (.getfield 15, 3) := by decide +kernel
theorem dX8_needs_15 : decode cX8_needs 15 = .ok (.iload_n 1, 1) := by decide +kernel
theorem dX8_needs_16 : decode cX8_needs 16 = .ok (.invokestatic 212, 3) := by decide +kernel
theorem dX8_needs_19 : decode cX8_needs 19 = .ok (.aload_n 0, 1) := by decide +kernel
theorem dX8_needs_20 : decode cX8_needs 20 = .ok (.getfield 15, 3) := by decide +kernel
theorem dX8_needs_23 : decode cX8_needs 23 = .ok (.iconst 2, 1) := by decide +kernel
theorem dX8_needs_24 : decode cX8_needs 24 = .ok (.iaload, 1) := by decide +kernel
theorem dX8_needs_25 : decode cX8_needs 25 = .ok (.iconst 1, 1) := by decide +kernel
theorem dX8_needs_26 : decode cX8_needs 26 = .ok (.if_icmp .ne 13, 3) := by decide +kernel
theorem dX8_needs_29 : decode cX8_needs 29 = .ok (.aload_n 0, 1) := by decide +kernel
theorem dX8_needs_30 : decode cX8_needs 30 = .ok (.getfield 15, 3) := by decide +kernel
theorem dX8_needs_33 : decode cX8_needs 33 = .ok (.invokestatic 202, 3) := by decide +kernel
theorem dX8_needs_36 : decode cX8_needs 36 = .ok (.goto (-17), 3) := by decide +kernel
theorem dX8_needs_39 : decode cX8_needs 39 = .ok (.aload_n 0, 1) := by decide +kernel
theorem dX8_needs_40 : decode cX8_needs 40 = .ok (.getfield 15, 3) := by decide +kernel
theorem dX8_needs_43 : decode cX8_needs 43 = .ok (.bipush 7, 2) := by decide +kernel
theorem dX8_needs_45 : decode cX8_needs 45 = .ok (.iload_n 2, 1) := by decide +kernel
theorem dX8_needs_46 : decode cX8_needs 46 = .ok (.iadd, 1) := by decide +kernel
theorem dX8_needs_47 : decode cX8_needs 47 = .ok (.iaload, 1) := by decide +kernel
theorem dX8_needs_48 : decode cX8_needs 48 = .ok (.ireturn, 1) := by decide +kernel
theorem dX8_need_0 : decode cX8_need 0 = .ok (.iload_n 2, 1) := by decide +kernel
theorem dX8_need_1 : decode cX8_need 1 = .ok (.i2l, 1) := by decide +kernel
theorem dX8_need_2 : decode cX8_need 2 = .ok (.lconst 0, 1) := by decide +kernel
theorem dX8_need_3 : decode cX8_need 3 = .ok (.ldc2_w 241, 3) := by decide +kernel
theorem dX8_need_6 : decode cX8_need 6 = .ok (.invokestatic 57, 3) := by decide +kernel
theorem dX8_need_9 : decode cX8_need 9 = .ok (.ifCond .ne 5, 3) := by decide +kernel
theorem dX8_need_12 : decode cX8_need 12 = .ok (.iconst (-1), 1) := by decide +kernel
theorem dX8_need_13 : decode cX8_need 13 = .ok (.ireturn, 1) := by decide +kernel
theorem dX8_need_14 : decode cX8_need 14 = .ok (.iload_n 1, 1) := by decide +kernel
theorem dX8_need_15 : decode cX8_need 15 = .ok (.i2l, 1) := by decide +kernel
theorem dX8_need_16 : decode cX8_need 16 = .ok (.lconst 0, 1) := by decide +kernel
theorem dX8_need_17 : decode cX8_need 17 = .ok (.ldc2_w 210, 3) := by decide +kernel
theorem dX8_need_20 : decode cX8_need 20 = .ok (.invokestatic 57, 3) := by decide +kernel
theorem dX8_need_23 : decode cX8_need 23 = .ok (.ifCond .ne 6, 3) := by decide +kernel
theorem dX8_need_26 : decode cX8_need 26 = .ok (.bipush (-2), 2) := by decide +kernel
theorem dX8_need_28 : decode cX8_need 28 = .ok (.ireturn, 1) := by decide +kernel
theorem dX8_need_29 : decode cX8_need 29 = .ok (.aload_n 0, 1) := by decide +kernel
theorem dX8_need_30 : decode cX8_need 30 = .ok (.getfield 11, 3) := by decide +kernel
theorem dX8_need_33 : decode cX8_need 33 = .ok (.iconst 2, 1) := by decide +kernel
theorem dX8_need_34 : decode cX8_need 34 = .ok (.iaload, 1) := by decide +kernel
theorem dX8_need_35 : decode cX8_need 35 = .ok (.iconst 1, 1) := by decide +kernel
theorem dX8_need_36 : decode cX8_need 36 = .ok (.if_icmp .ne 8, 3) := by decide +kernel
theorem dX8_need_39 : decode cX8_need 39 = .ok (.bipush (-3), 2) := by decide +kernel
theorem dX8_need_41 : decode cX8_need 41 = .ok (.goto 9, 3) := by decide +kernel
theorem dX8_need_44 : decode cX8_need 44 = .ok (.aload_n 0, 1) := by decide +kernel
theorem dX8_need_45 : decode cX8_need 45 = .ok (.iload_n 1, 1) := by decide +kernel
theorem dX8_need_46 : decode cX8_need 46 = .ok (.iload_n 2, 1) := by decide +kernel
theorem dX8_need_47 : decode cX8_need 47 = .ok (.invokevirtual 245, 3) := by decide +kernel
theorem dX8_need_50 : decode cX8_need 50 = .ok (.ireturn, 1) := by decide +kernel
theorem dX8_least_0 : decode cX8_least 0 = .ok (.iload_n 1, 1) := by decide +kernel
theorem dX8_least_1 : decode cX8_least 1 = .ok (.i2l, 1) := by decide +kernel
theorem dX8_least_2 : decode cX8_least 2 = .ok (.lconst 0, 1) := by decide +kernel
theorem dX8_least_3 : decode cX8_least 3 = .ok (.lconst 1, 1) := by decide +kernel
theorem dX8_least_4 : decode cX8_least 4 = .ok (.invokestatic 57, 3) := by decide +kernel
theorem dX8_least_7 : decode cX8_least 7 = .ok (.ifCond .ne 5, 3) := by decide +kernel
theorem dX8_least_10 : decode cX8_least 10 = .ok (.iconst (-1), 1) := by decide +kernel
theorem dX8_least_11 : decode cX8_least 11 = .ok (.ireturn, 1) := by decide +kernel
theorem dX8_least_12 : decode cX8_least 12 = .ok (.aload_n 0, 1) := by decide +kernel
theorem dX8_least_13 : decode cX8_least 13 = .ok (.getfield 11, 3) := by decide +kernel
theorem dX8_least_16 : decode cX8_least 16 = .ok (.iconst 2, 1) := by decide +kernel
theorem dX8_least_17 : decode cX8_least 17 = .ok (.iaload, 1) := by decide +kernel
theorem dX8_least_18 : decode cX8_least 18 = .ok (.iconst 1, 1) := by decide +kernel
theorem dX8_least_19 : decode cX8_least 19 = .ok (.if_icmp .ne 6, 3) := by decide +kernel
theorem dX8_least_22 : decode cX8_least 22 = .ok (.bipush (-3), 2) := by decide +kernel
theorem dX8_least_24 : decode cX8_least 24 = .ok (.ireturn, 1) := by decide +kernel
theorem dX8_least_25 : decode cX8_least 25 = .ok (.iconst 0, 1) := by decide +kernel
theorem dX8_least_26 : decode cX8_least 26 = .ok (.istore_n 2, 1) := by decide +kernel
theorem dX8_least_27 : decode cX8_least 27 = .ok (.iload_n 2, 1) := by decide +kernel
theorem dX8_least_28 : decode cX8_least 28 = .ok (.bipush 8, 2) := by decide +kernel
theorem dX8_least_30 : decode cX8_least 30 = .ok (.if_icmp .gt 28, 3) := by decide +kernel
theorem dX8_least_33 : decode cX8_least 33 = .ok (.aload_n 0, 1) := by decide +kernel
theorem dX8_least_34 : decode cX8_least 34 = .ok (.iload_n 2, 1) := by decide +kernel
theorem dX8_least_35 : decode cX8_least 35 = .ok (.iload_n 1, 1) := by decide +kernel
theorem dX8_least_36 : decode cX8_least 36 = .ok (.ifCond .ne 7, 3) := by decide +kernel
theorem dX8_least_39 : decode cX8_least 39 = .ok (.iconst 1, 1) := by decide +kernel
theorem dX8_least_40 : decode cX8_least 40 = .ok (.goto 4, 3) := by decide +kernel
theorem dX8_least_43 : decode cX8_least 43 = .ok (.iconst 3, 1) := by decide +kernel
theorem dX8_least_44 : decode cX8_least 44 = .ok (.invokevirtual 245, 3) := by decide +kernel
theorem dX8_least_47 : decode cX8_least 47 = .ok (.ifCond .ne 5, 3) := by decide +kernel
theorem dX8_least_50 : decode cX8_least 50 = .ok (.iload_n 2, 1) := by decide +kernel
theorem dX8_least_51 : decode cX8_least 51 = .ok (.ireturn, 1) := by decide +kernel
theorem dX8_least_52 : decode cX8_least 52 = .ok (.iinc 2 1, 3) := by decide +kernel
theorem dX8_least_55 : decode cX8_least 55 = .ok (.goto (-28), 3) := by decide +kernel
theorem dX8_least_58 : decode cX8_least 58 = .ok (.bipush (-5), 2) := by decide +kernel
theorem dX8_least_60 : decode cX8_least 60 = .ok (.ireturn, 1) := by decide +kernel
theorem dX8_see_0 : decode cX8_see 0 = .ok (.iload_n 1, 1) := by decide +kernel
theorem dX8_see_1 : decode cX8_see 1 = .ok (.iconst (-1), 1) := by decide +kernel
theorem dX8_see_2 : decode cX8_see 2 = .ok (.if_icmp .ne 14, 3) := by decide +kernel
theorem dX8_see_5 : decode cX8_see 5 = .ok (.aload_n 0, 1) := by decide +kernel
theorem dX8_see_6 : decode cX8_see 6 = .ok (.getfield 11, 3) := by decide +kernel
theorem dX8_see_9 : decode cX8_see 9 = .ok (.sipush 299, 3) := by decide +kernel
theorem dX8_see_12 : decode cX8_see 12 = .ok (.iconst 0, 1) := by decide +kernel
theorem dX8_see_13 : decode cX8_see 13 = .ok (.iastore, 1) := by decide +kernel
theorem dX8_see_14 : decode cX8_see 14 = .ok (.iconst 0, 1) := by decide +kernel
theorem dX8_see_15 : decode cX8_see 15 = .ok (.ireturn, 1) := by decide +kernel
theorem dX8_see_16 : decode cX8_see 16 = .ok (.aload_n 0, 1) := by decide +kernel
theorem dX8_see_17 : decode cX8_see 17 = .ok (.iload_n 1, 1) := by decide +kernel
theorem dX8_see_18 : decode cX8_see 18 = .ok (.invokevirtual 65, 3) := by decide +kernel
theorem dX8_see_21 : decode cX8_see 21 = .ok (.ifCond .ne 5, 3) := by decide +kernel
theorem dX8_see_24 : decode cX8_see 24 = .ok (.iconst (-1), 1) := by decide +kernel
theorem dX8_see_25 : decode cX8_see 25 = .ok (.ireturn, 1) := by decide +kernel
theorem dX8_see_26 : decode cX8_see 26 = .ok (.iload_n 2, 1) := by decide +kernel
theorem dX8_see_27 : decode cX8_see 27 = .ok (.i2l, 1) := by decide +kernel
theorem dX8_see_28 : decode cX8_see 28 = .ok (.lconst 0, 1) := by decide +kernel
theorem dX8_see_29 : decode cX8_see 29 = .ok (.ldc2_w 248, 3) := by decide +kernel
theorem dX8_see_32 : decode cX8_see 32 = .ok (.invokestatic 57, 3) := by decide +kernel
theorem dX8_see_35 : decode cX8_see 35 = .ok (.ifCond .ne 6, 3) := by decide +kernel
theorem dX8_see_38 : decode cX8_see 38 = .ok (.bipush (-2), 2) := by decide +kernel
theorem dX8_see_40 : decode cX8_see 40 = .ok (.ireturn, 1) := by decide +kernel
theorem dX8_see_41 : decode cX8_see 41 = .ok (.aload_n 0, 1) := by decide +kernel
theorem dX8_see_42 : decode cX8_see 42 = .ok (.getfield 11, 3) := by decide +kernel
theorem dX8_see_45 : decode cX8_see 45 = .ok (.sipush 299, 3) := by decide +kernel
theorem dX8_see_48 : decode cX8_see 48 = .ok (.iaload, 1) := by decide +kernel
theorem dX8_see_49 : decode cX8_see 49 = .ok (.istore 4, 2) := by decide +kernel
theorem dX8_see_51 : decode cX8_see 51 = .ok (.iload 4, 2) := by decide +kernel
theorem dX8_see_53 : decode cX8_see 53 = .ok (.iconst 5, 1) := by decide +kernel
theorem dX8_see_54 : decode cX8_see 54 = .ok (.if_icmp .ne 6, 3) := by decide +kernel
theorem dX8_see_57 : decode cX8_see 57 = .ok (.bipush (-4), 2) := by decide +kernel
theorem dX8_see_59 : decode cX8_see 59 = .ok (.ireturn, 1) := by decide +kernel
theorem dX8_see_60 : decode cX8_see 60 = .ok (.aload_n 0, 1) := by decide +kernel
theorem dX8_see_61 : decode cX8_see 61 = .ok (.getfield 11, 3) := by decide +kernel
theorem dX8_see_64 : decode cX8_see 64 = .ok (.sipush 284, 3) := by decide +kernel
theorem dX8_see_67 : decode cX8_see 67 = .ok (.iconst 3, 1) := by decide +kernel
theorem dX8_see_68 : decode cX8_see 68 = .ok (.iload 4, 2) := by decide +kernel
theorem dX8_see_70 : decode cX8_see 70 = .ok (.imul, 1) := by decide +kernel
theorem dX8_see_71 : decode cX8_see 71 = .ok (.iadd, 1) := by decide +kernel
theorem dX8_see_72 : decode cX8_see 72 = .ok (.iload_n 1, 1) := by decide +kernel
theorem dX8_see_73 : decode cX8_see 73 = .ok (.iastore, 1) := by decide +kernel
theorem dX8_see_74 : decode cX8_see 74 = .ok (.aload_n 0, 1) := by decide +kernel
theorem dX8_see_75 : decode cX8_see 75 = .ok (.getfield 11, 3) := by decide +kernel
theorem dX8_see_78 : decode cX8_see 78 = .ok (.sipush 284, 3) := by decide +kernel
theorem dX8_see_81 : decode cX8_see 81 = .ok (.iconst 3, 1) := by decide +kernel
theorem dX8_see_82 : decode cX8_see 82 = .ok (.iload 4, 2) := by decide +kernel
theorem dX8_see_84 : decode cX8_see 84 = .ok (.imul, 1) := by decide +kernel
theorem dX8_see_85 : decode cX8_see 85 = .ok (.iadd, 1) := by decide +kernel
theorem dX8_see_86 : decode cX8_see 86 = .ok (.iconst 1, 1) := by decide +kernel
theorem dX8_see_87 : decode cX8_see 87 = .ok (.iadd, 1) := by decide +kernel
theorem dX8_see_88 : decode cX8_see 88 = .ok (.iload_n 2, 1) := by decide +kernel
theorem dX8_see_89 : decode cX8_see 89 = .ok (.iastore, 1) := by decide +kernel
theorem dX8_see_90 : decode cX8_see 90 = .ok (.aload_n 0, 1) := by decide +kernel
theorem dX8_see_91 : decode cX8_see 91 = .ok (.getfield 11, 3) := by decide +kernel
theorem dX8_see_94 : decode cX8_see 94 = .ok (.sipush 284, 3) := by decide +kernel
theorem dX8_see_97 : decode cX8_see 97 = .ok (.iconst 3, 1) := by decide +kernel
theorem dX8_see_98 : decode cX8_see 98 = .ok (.iload 4, 2) := by decide +kernel
theorem dX8_see_100 : decode cX8_see 100 = .ok (.imul, 1) := by decide +kernel
theorem dX8_see_101 : decode cX8_see 101 = .ok (.iadd, 1) := by decide +kernel
theorem dX8_see_102 : decode cX8_see 102 = .ok (.iconst 2, 1) := by decide +kernel
theorem dX8_see_103 : decode cX8_see 103 = .ok (.iadd, 1) := by decide +kernel
theorem dX8_see_104 : decode cX8_see 104 = .ok (.iload_n 3, 1) := by decide +kernel
theorem dX8_see_105 : decode cX8_see 105 = .ok (.invokestatic 106, 3) := by decide +kernel
theorem dX8_see_108 : decode cX8_see 108 = .ok (.iastore, 1) := by decide +kernel
theorem dX8_see_109 : decode cX8_see 109 = .ok (.aload_n 0, 1) := by decide +kernel
theorem dX8_see_110 : decode cX8_see 110 = .ok (.getfield 11, 3) := by decide +kernel
theorem dX8_see_113 : decode cX8_see 113 = .ok (.sipush 299, 3) := by decide +kernel
theorem dX8_see_116 : decode cX8_see 116 = .ok (.iload 4, 2) := by decide +kernel
theorem dX8_see_118 : decode cX8_see 118 = .ok (.iconst 1, 1) := by decide +kernel
theorem dX8_see_119 : decode cX8_see 119 = .ok (.iadd, 1) := by decide +kernel
theorem dX8_see_120 : decode cX8_see 120 = .ok (.iastore, 1) := by decide +kernel
theorem dX8_see_121 : decode cX8_see 121 = .ok (.iload 4, 2) := by decide +kernel
theorem dX8_see_123 : decode cX8_see 123 = .ok (.iconst 1, 1) := by decide +kernel
theorem dX8_see_124 : decode cX8_see 124 = .ok (.iadd, 1) := by decide +kernel
theorem dX8_see_125 : decode cX8_see 125 = .ok (.ireturn, 1) := by decide +kernel
theorem dX8_isSeen_0 : decode cX8_isSeen 0 = .ok (.aload_n 1, 1) := by decide +kernel
theorem dX8_isSeen_1 : decode cX8_isSeen 1 = .ok (.iload_n 2, 1) := by decide +kernel
theorem dX8_isSeen_2 : decode cX8_isSeen 2 = .ok (.invokestatic 212, 3) := by decide +kernel
theorem dX8_isSeen_5 : decode cX8_isSeen 5 = .ok (.iconst 0, 1) := by decide +kernel
theorem dX8_isSeen_6 : decode cX8_isSeen 6 = .ok (.istore_n 3, 1) := by decide +kernel
theorem dX8_isSeen_7 : decode cX8_isSeen 7 = .ok (.iload_n 3, 1) := by decide +kernel
theorem dX8_isSeen_8 : decode cX8_isSeen 8 = .ok (.bipush 40, 2) := by decide +kernel
theorem dX8_isSeen_10 : decode cX8_isSeen 10 = .ok (.if_icmp .gt 88, 3) := by decide +kernel
theorem dX8_isSeen_13 : decode cX8_isSeen 13 = .ok (.iconst 0, 1) := by decide +kernel
theorem dX8_isSeen_14 : decode cX8_isSeen 14 = .ok (.istore 4, 2) := by decide +kernel
theorem dX8_isSeen_16 : decode cX8_isSeen 16 = .ok (.iload 4, 2) := by decide +kernel
theorem dX8_isSeen_18 : decode cX8_isSeen 18 = .ok (.aload_n 1, 1) := by decide +kernel
theorem dX8_isSeen_19 : decode cX8_isSeen 19 = .ok (.sipush 299, 3) := by decide +kernel
theorem dX8_isSeen_22 : decode cX8_isSeen 22 = .ok (.iaload, 1) := by decide +kernel
theorem dX8_isSeen_23 : decode cX8_isSeen 23 = .ok (.if_icmp .ge 62, 3) := by decide +kernel
theorem dX8_isSeen_26 : decode cX8_isSeen 26 = .ok (.aload_n 1, 1) := by decide +kernel
theorem dX8_isSeen_27 : decode cX8_isSeen 27 = .ok (.sipush 284, 3) := by decide +kernel
theorem dX8_isSeen_30 : decode cX8_isSeen 30 = .ok (.iconst 3, 1) := by decide +kernel
theorem dX8_isSeen_31 : decode cX8_isSeen 31 = .ok (.iload 4, 2) := by decide +kernel
theorem dX8_isSeen_33 : decode cX8_isSeen 33 = .ok (.imul, 1) := by decide +kernel
theorem dX8_isSeen_34 : decode cX8_isSeen 34 = .ok (.iadd, 1) := by decide +kernel
theorem dX8_isSeen_35 : decode cX8_isSeen 35 = .ok (.iconst 1, 1) := by decide +kernel
theorem dX8_isSeen_36 : decode cX8_isSeen 36 = .ok (.iadd, 1) := by decide +kernel
theorem dX8_isSeen_37 : decode cX8_isSeen 37 = .ok (.iaload, 1) := by decide +kernel
theorem dX8_isSeen_38 : decode cX8_isSeen 38 = .ok (.iload_n 3, 1) := by decide +kernel
theorem dX8_isSeen_39 : decode cX8_isSeen 39 = .ok (.if_icmp .ne 40, 3) := by decide +kernel
theorem dX8_isSeen_42 : decode cX8_isSeen 42 = .ok (.aload_n 1, 1) := by decide +kernel
theorem dX8_isSeen_43 : decode cX8_isSeen 43 = .ok (.bipush 12, 2) := by decide +kernel
theorem dX8_isSeen_45 : decode cX8_isSeen 45 = .ok (.iaload, 1) := by decide +kernel
theorem dX8_isSeen_46 : decode cX8_isSeen 46 = .ok (.aload_n 1, 1) := by decide +kernel
theorem dX8_isSeen_47 : decode cX8_isSeen 47 = .ok (.sipush 284, 3) := by decide +kernel
theorem dX8_isSeen_50 : decode cX8_isSeen 50 = .ok (.iconst 3, 1) := by decide +kernel
theorem dX8_isSeen_51 : decode cX8_isSeen 51 = .ok (.iload 4, 2) := by decide +kernel
theorem dX8_isSeen_53 : decode cX8_isSeen 53 = .ok (.imul, 1) := by decide +kernel
theorem dX8_isSeen_54 : decode cX8_isSeen 54 = .ok (.iadd, 1) := by decide +kernel
theorem dX8_isSeen_55 : decode cX8_isSeen 55 = .ok (.iaload, 1) := by decide +kernel
theorem dX8_isSeen_56 : decode cX8_isSeen 56 = .ok (.invokestatic 61, 3) := by decide +kernel
theorem dX8_isSeen_59 : decode cX8_isSeen 59 = .ok (.invokestatic 106, 3) := by decide +kernel
theorem dX8_isSeen_62 : decode cX8_isSeen 62 = .ok (.aload_n 1, 1) := by decide +kernel
theorem dX8_isSeen_63 : decode cX8_isSeen 63 = .ok (.sipush 284, 3) := by decide +kernel
theorem dX8_isSeen_66 : decode cX8_isSeen 66 = .ok (.iconst 3, 1) := by decide +kernel
theorem dX8_isSeen_67 : decode cX8_isSeen 67 = .ok (.iload 4, 2) := by decide +kernel
theorem dX8_isSeen_69 : decode cX8_isSeen 69 = .ok (.imul, 1) := by decide +kernel
theorem dX8_isSeen_70 : decode cX8_isSeen 70 = .ok (.iadd, 1) := by decide +kernel
theorem dX8_isSeen_71 : decode cX8_isSeen 71 = .ok (.iconst 2, 1) := by decide +kernel
theorem dX8_isSeen_72 : decode cX8_isSeen 72 = .ok (.iadd, 1) := by decide +kernel
theorem dX8_isSeen_73 : decode cX8_isSeen 73 = .ok (.iaload, 1) := by decide +kernel
theorem dX8_isSeen_74 : decode cX8_isSeen 74 = .ok (.if_icmp .eq 5, 3) := by decide +kernel
theorem dX8_isSeen_77 : decode cX8_isSeen 77 = .ok (.iconst 0, 1) := by decide +kernel
theorem dX8_isSeen_78 : decode cX8_isSeen 78 = .ok (.ireturn, 1) := by decide +kernel
theorem dX8_isSeen_79 : decode cX8_isSeen 79 = .ok (.iinc 4 1, 3) := by decide +kernel
theorem dX8_isSeen_82 : decode cX8_isSeen 82 = .ok (.goto (-66), 3) := by decide +kernel
theorem dX8_isSeen_85 : decode cX8_isSeen 85 = .ok (.aload_n 1, 1) := by decide +kernel
theorem dX8_isSeen_86 : decode cX8_isSeen 86 = .ok (.iconst 1, 1) := by decide +kernel
theorem dX8_isSeen_87 : decode cX8_isSeen 87 = .ok (.invokestatic 221, 3) := by decide +kernel
theorem dX8_isSeen_90 : decode cX8_isSeen 90 = .ok (.istore 4, 2) := by decide +kernel
theorem dX8_isSeen_92 : decode cX8_isSeen 92 = .ok (.iinc 3 1, 3) := by decide +kernel
theorem dX8_isSeen_95 : decode cX8_isSeen 95 = .ok (.goto (-88), 3) := by decide +kernel
theorem dX8_isSeen_98 : decode cX8_isSeen 98 = .ok (.iconst 1, 1) := by decide +kernel
theorem dX8_isSeen_99 : decode cX8_isSeen 99 = .ok (.ireturn, 1) := by decide +kernel
theorem dX8_fits_0 : decode cX8_fits 0 = .ok (.iload_n 1, 1) := by decide +kernel
theorem dX8_fits_1 : decode cX8_fits 1 = .ok (.i2l, 1) := by decide +kernel
theorem dX8_fits_2 : decode cX8_fits 2 = .ok (.lconst 0, 1) := by decide +kernel
theorem dX8_fits_3 : decode cX8_fits 3 = .ok (.ldc2_w 210, 3) := by decide +kernel
theorem dX8_fits_6 : decode cX8_fits 6 = .ok (.invokestatic 57, 3) := by decide +kernel
theorem dX8_fits_9 : decode cX8_fits 9 = .ok (.ifCond .ne 6, 3) := by decide +kernel
theorem dX8_fits_12 : decode cX8_fits 12 = .ok (.bipush (-2), 2) := by decide +kernel
theorem dX8_fits_14 : decode cX8_fits 14 = .ok (.ireturn, 1) := by decide +kernel
theorem dX8_fits_15 : decode cX8_fits 15 = .ok (.aload_n 0, 1) := by decide +kernel
theorem dX8_fits_16 : decode cX8_fits 16 = .ok (.getfield 11, 3) := by decide +kernel
theorem dX8_fits_19 : decode cX8_fits 19 = .ok (.iconst 2, 1) := by decide +kernel
theorem dX8_fits_20 : decode cX8_fits 20 = .ok (.iaload, 1) := by decide +kernel
theorem dX8_fits_21 : decode cX8_fits 21 = .ok (.iconst 1, 1) := by decide +kernel
theorem dX8_fits_22 : decode cX8_fits 22 = .ok (.if_icmp .ne 6, 3) := by decide +kernel
theorem dX8_fits_25 : decode cX8_fits 25 = .ok (.bipush (-3), 2) := by decide +kernel
theorem dX8_fits_27 : decode cX8_fits 27 = .ok (.ireturn, 1) := by decide +kernel
theorem dX8_fits_28 : decode cX8_fits 28 = .ok (.iconst 0, 1) := by decide +kernel
theorem dX8_fits_29 : decode cX8_fits 29 = .ok (.istore_n 2, 1) := by decide +kernel
theorem dX8_fits_30 : decode cX8_fits 30 = .ok (.iconst 0, 1) := by decide +kernel
theorem dX8_fits_31 : decode cX8_fits 31 = .ok (.istore_n 3, 1) := by decide +kernel
theorem dX8_fits_32 : decode cX8_fits 32 = .ok (.iload_n 3, 1) := by decide +kernel
theorem dX8_fits_33 : decode cX8_fits 33 = .ok (.bipush 24, 2) := by decide +kernel
theorem dX8_fits_35 : decode cX8_fits 35 = .ok (.if_icmp .ge 58, 3) := by decide +kernel
theorem dX8_fits_38 : decode cX8_fits 38 = .ok (.aload_n 0, 1) := by decide +kernel
theorem dX8_fits_39 : decode cX8_fits 39 = .ok (.iload_n 3, 1) := by decide +kernel
theorem dX8_fits_40 : decode cX8_fits 40 = .ok (.invokevirtual 65, 3) := by decide +kernel
theorem dX8_fits_43 : decode cX8_fits 43 = .ok (.ifCond .eq 44, 3) := by decide +kernel
theorem dX8_fits_46 : decode cX8_fits 46 = .ok (.aload_n 0, 1) := by decide +kernel
theorem dX8_fits_47 : decode cX8_fits 47 = .ok (.getfield 11, 3) := by decide +kernel
theorem dX8_fits_50 : decode cX8_fits 50 = .ok (.aload_n 0, 1) := by decide +kernel
theorem dX8_fits_51 : decode cX8_fits 51 = .ok (.getfield 15, 3) := by decide +kernel
theorem dX8_fits_54 : decode cX8_fits 54 = .ok (.invokestatic 224, 3) := by decide +kernel
theorem dX8_fits_57 : decode cX8_fits 57 = .ok (.aload_n 0, 1) := by decide +kernel
theorem dX8_fits_58 : decode cX8_fits 58 = .ok (.getfield 15, 3) := by decide +kernel
theorem dX8_fits_61 : decode cX8_fits 61 = .ok (.bipush 16, 2) := by decide +kernel
theorem dX8_fits_63 : decode cX8_fits 63 = .ok (.iload_n 3, 1) := by decide +kernel
theorem dX8_fits_64 : decode cX8_fits 64 = .ok (.iastore, 1) := by decide +kernel
theorem dX8_fits_65 : decode cX8_fits 65 = .ok (.iload_n 2, 1) := by decide +kernel
theorem dX8_fits_66 : decode cX8_fits 66 = .ok (.aload_n 0, 1) := by decide +kernel
theorem dX8_fits_67 : decode cX8_fits 67 = .ok (.aload_n 0, 1) := by decide +kernel
theorem dX8_fits_68 : decode cX8_fits 68 = .ok (.getfield 15, 3) := by decide +kernel
theorem dX8_fits_71 : decode cX8_fits 71 = .ok (.iload_n 1, 1) := by decide +kernel
theorem dX8_fits_72 : decode cX8_fits 72 = .ok (.invokevirtual 250, 3) := by decide +kernel
theorem dX8_fits_75 : decode cX8_fits 75 = .ok (.ifCond .eq 9, 3) := by decide +kernel
theorem dX8_fits_78 : decode cX8_fits 78 = .ok (.iconst 1, 1) := by decide +kernel
theorem dX8_fits_79 : decode cX8_fits 79 = .ok (.iload_n 3, 1) := by decide +kernel
theorem dX8_fits_80 : decode cX8_fits 80 = .ok (.ishl, 1) := by decide +kernel
theorem dX8_fits_81 : decode cX8_fits 81 = .ok (.goto 4, 3) := by decide +kernel
theorem dX8_fits_84 : decode cX8_fits 84 = .ok (.iconst 0, 1) := by decide +kernel
theorem dX8_fits_85 : decode cX8_fits 85 = .ok (.ior, 1) := by decide +kernel
theorem dX8_fits_86 : decode cX8_fits 86 = .ok (.istore_n 2, 1) := by decide +kernel
theorem dX8_fits_87 : decode cX8_fits 87 = .ok (.iinc 3 1, 3) := by decide +kernel
theorem dX8_fits_90 : decode cX8_fits 90 = .ok (.goto (-58), 3) := by decide +kernel
theorem dX8_fits_93 : decode cX8_fits 93 = .ok (.iload_n 2, 1) := by decide +kernel
theorem dX8_fits_94 : decode cX8_fits 94 = .ok (.ireturn, 1) := by decide +kernel
theorem dX8_can_0 : decode cX8_can 0 = .ok (.aload_n 0, 1) := by decide +kernel
theorem dX8_can_1 : decode cX8_can 1 = .ok (.iload_n 1, 1) := by decide +kernel
theorem dX8_can_2 : decode cX8_can 2 = .ok (.invokevirtual 65, 3) := by decide +kernel
theorem dX8_can_5 : decode cX8_can 5 = .ok (.ifCond .eq 13, 3) := by decide +kernel
theorem dX8_can_8 : decode cX8_can 8 = .ok (.iload_n 3, 1) := by decide +kernel
theorem dX8_can_9 : decode cX8_can 9 = .ok (.i2l, 1) := by decide +kernel
theorem dX8_can_10 : decode cX8_can 10 = .ok (.lconst 0, 1) := by decide +kernel
theorem dX8_can_11 : decode cX8_can 11 = .ok (.lconst 1, 1) := by decide +kernel
theorem dX8_can_12 : decode cX8_can 12 = .ok (.invokestatic 57, 3) := by decide +kernel
theorem dX8_can_15 : decode cX8_can 15 = .ok (.ifCond .ne 5, 3) := by decide +kernel
theorem dX8_can_18 : decode cX8_can 18 = .ok (.iconst (-1), 1) := by decide +kernel
theorem dX8_can_19 : decode cX8_can 19 = .ok (.ireturn, 1) := by decide +kernel
theorem dX8_can_20 : decode cX8_can 20 = .ok (.iload_n 2, 1) := by decide +kernel
theorem dX8_can_21 : decode cX8_can 21 = .ok (.i2l, 1) := by decide +kernel
theorem dX8_can_22 : decode cX8_can 22 = .ok (.lconst 0, 1) := by decide +kernel
theorem dX8_can_23 : decode cX8_can 23 = .ok (.ldc2_w 210, 3) := by decide +kernel
theorem dX8_can_26 : decode cX8_can 26 = .ok (.invokestatic 57, 3) := by decide +kernel
theorem dX8_can_29 : decode cX8_can 29 = .ok (.ifCond .ne 6, 3) := by decide +kernel
theorem dX8_can_32 : decode cX8_can 32 = .ok (.bipush (-2), 2) := by decide +kernel
theorem dX8_can_34 : decode cX8_can 34 = .ok (.ireturn, 1) := by decide +kernel
theorem dX8_can_35 : decode cX8_can 35 = .ok (.aload_n 0, 1) := by decide +kernel
theorem dX8_can_36 : decode cX8_can 36 = .ok (.getfield 11, 3) := by decide +kernel
theorem dX8_can_39 : decode cX8_can 39 = .ok (.iconst 2, 1) := by decide +kernel
theorem dX8_can_40 : decode cX8_can 40 = .ok (.iaload, 1) := by decide +kernel
theorem dX8_can_41 : decode cX8_can 41 = .ok (.iconst 1, 1) := by decide +kernel
theorem dX8_can_42 : decode cX8_can 42 = .ok (.if_icmp .ne 6, 3) := by decide +kernel
theorem dX8_can_45 : decode cX8_can 45 = .ok (.bipush (-3), 2) := by decide +kernel
theorem dX8_can_47 : decode cX8_can 47 = .ok (.ireturn, 1) := by decide +kernel
theorem dX8_can_48 : decode cX8_can 48 = .ok (.iconst 0, 1) := by decide +kernel
theorem dX8_can_49 : decode cX8_can 49 = .ok (.istore 4, 2) := by decide +kernel
theorem dX8_can_51 : decode cX8_can 51 = .ok (.bipush (-5), 2) := by decide +kernel
theorem dX8_can_53 : decode cX8_can 53 = .ok (.istore 5, 2) := by decide +kernel
theorem dX8_can_55 : decode cX8_can 55 = .ok (.bipush 9, 2) := by decide +kernel
theorem dX8_can_57 : decode cX8_can 57 = .ok (.istore 6, 2) := by decide +kernel
theorem dX8_can_59 : decode cX8_can 59 = .ok (.iload 6, 2) := by decide +kernel
theorem dX8_can_61 : decode cX8_can 61 = .ok (.ifCond .lt 50, 3) := by decide +kernel
theorem dX8_can_64 : decode cX8_can 64 = .ok (.aload_n 0, 1) := by decide +kernel
theorem dX8_can_65 : decode cX8_can 65 = .ok (.getfield 11, 3) := by decide +kernel
theorem dX8_can_68 : decode cX8_can 68 = .ok (.aload_n 0, 1) := by decide +kernel
theorem dX8_can_69 : decode cX8_can 69 = .ok (.getfield 15, 3) := by decide +kernel
theorem dX8_can_72 : decode cX8_can 72 = .ok (.invokestatic 224, 3) := by decide +kernel
theorem dX8_can_75 : decode cX8_can 75 = .ok (.aload_n 0, 1) := by decide +kernel
theorem dX8_can_76 : decode cX8_can 76 = .ok (.getfield 15, 3) := by decide +kernel
theorem dX8_can_79 : decode cX8_can 79 = .ok (.bipush 44, 2) := by decide +kernel
theorem dX8_can_81 : decode cX8_can 81 = .ok (.iload_n 1, 1) := by decide +kernel
theorem dX8_can_82 : decode cX8_can 82 = .ok (.iadd, 1) := by decide +kernel
theorem dX8_can_83 : decode cX8_can 83 = .ok (.iload 6, 2) := by decide +kernel
theorem dX8_can_85 : decode cX8_can 85 = .ok (.iastore, 1) := by decide +kernel
theorem dX8_can_86 : decode cX8_can 86 = .ok (.aload_n 0, 1) := by decide +kernel
theorem dX8_can_87 : decode cX8_can 87 = .ok (.aload_n 0, 1) := by decide +kernel
theorem dX8_can_88 : decode cX8_can 88 = .ok (.getfield 15, 3) := by decide +kernel
theorem dX8_can_91 : decode cX8_can 91 = .ok (.iload_n 2, 1) := by decide +kernel
theorem dX8_can_92 : decode cX8_can 92 = .ok (.invokevirtual 250, 3) := by decide +kernel
theorem dX8_can_95 : decode cX8_can 95 = .ok (.ifCond .eq 10, 3) := by decide +kernel
theorem dX8_can_98 : decode cX8_can 98 = .ok (.iinc 4 1, 3) := by decide +kernel
theorem dX8_can_101 : decode cX8_can 101 = .ok (.iload 6, 2) := by decide +kernel
theorem dX8_can_103 : decode cX8_can 103 = .ok (.istore 5, 2) := by decide +kernel
theorem dX8_can_105 : decode cX8_can 105 = .ok (.iinc 6 (-1), 3) := by decide +kernel
theorem dX8_can_108 : decode cX8_can 108 = .ok (.goto (-49), 3) := by decide +kernel
theorem dX8_can_111 : decode cX8_can 111 = .ok (.iload_n 3, 1) := by decide +kernel
theorem dX8_can_112 : decode cX8_can 112 = .ok (.ifCond .ne 8, 3) := by decide +kernel
theorem dX8_can_115 : decode cX8_can 115 = .ok (.iload 4, 2) := by decide +kernel
theorem dX8_can_117 : decode cX8_can 117 = .ok (.goto 5, 3) := by decide +kernel
theorem dX8_can_120 : decode cX8_can 120 = .ok (.iload 5, 2) := by decide +kernel
theorem dX8_can_122 : decode cX8_can 122 = .ok (.ireturn, 1) := by decide +kernel
theorem dX8_lowest_0 : decode cX8_lowest 0 = .ok (.lload_n 0, 1) := by decide +kernel
theorem dX8_lowest_1 : decode cX8_lowest 1 = .ok (.lstore 5, 2) := by decide +kernel
theorem dX8_lowest_3 : decode cX8_lowest 3 = .ok (.lload_n 2, 1) := by decide +kernel
theorem dX8_lowest_4 : decode cX8_lowest 4 = .ok (.lstore 7, 2) := by decide +kernel
theorem dX8_lowest_6 : decode cX8_lowest 6 = .ok (.lload 7, 2) := by decide +kernel
theorem dX8_lowest_8 : decode cX8_lowest 8 = .ok (.lconst 0, 1) := by decide +kernel
theorem dX8_lowest_9 : decode cX8_lowest 9 = .ok (.lcmp, 1) := by decide +kernel
theorem dX8_lowest_10 : decode cX8_lowest 10 = .ok (.ifCond .eq 21, 3) := by decide +kernel
theorem dX8_lowest_13 : decode cX8_lowest 13 = .ok (.lload 5, 2) := by decide +kernel
theorem dX8_lowest_15 : decode cX8_lowest 15 = .ok (.lload 7, 2) := by decide +kernel
theorem dX8_lowest_17 : decode cX8_lowest 17 = .ok (.lrem, 1) := by decide +kernel
theorem dX8_lowest_18 : decode cX8_lowest 18 = .ok (.lstore 9, 2) := by decide +kernel
theorem dX8_lowest_20 : decode cX8_lowest 20 = .ok (.lload 7, 2) := by decide +kernel
theorem dX8_lowest_22 : decode cX8_lowest 22 = .ok (.lstore 5, 2) := by decide +kernel
theorem dX8_lowest_24 : decode cX8_lowest 24 = .ok (.lload 9, 2) := by decide +kernel
theorem dX8_lowest_26 : decode cX8_lowest 26 = .ok (.lstore 7, 2) := by decide +kernel
theorem dX8_lowest_28 : decode cX8_lowest 28 = .ok (.goto (-22), 3) := by decide +kernel
theorem dX8_lowest_31 : decode cX8_lowest 31 = .ok (.iload 4, 2) := by decide +kernel
theorem dX8_lowest_33 : decode cX8_lowest 33 = .ok (.ifCond .ne 7, 3) := by decide +kernel
theorem dX8_lowest_36 : decode cX8_lowest 36 = .ok (.lload_n 0, 1) := by decide +kernel
theorem dX8_lowest_37 : decode cX8_lowest 37 = .ok (.goto 4, 3) := by decide +kernel
theorem dX8_lowest_40 : decode cX8_lowest 40 = .ok (.lload_n 2, 1) := by decide +kernel
theorem dX8_lowest_41 : decode cX8_lowest 41 = .ok (.lload 5, 2) := by decide +kernel
theorem dX8_lowest_43 : decode cX8_lowest 43 = .ok (.ldiv, 1) := by decide +kernel
theorem dX8_lowest_44 : decode cX8_lowest 44 = .ok (.lreturn, 1) := by decide +kernel
theorem dX8_odds_0 : decode cX8_odds 0 = .ok (.aload_n 0, 1) := by decide +kernel
theorem dX8_odds_1 : decode cX8_odds 1 = .ok (.iload_n 1, 1) := by decide +kernel
theorem dX8_odds_2 : decode cX8_odds 2 = .ok (.invokevirtual 65, 3) := by decide +kernel
theorem dX8_odds_5 : decode cX8_odds 5 = .ok (.ifCond .eq 13, 3) := by decide +kernel
theorem dX8_odds_8 : decode cX8_odds 8 = .ok (.iload_n 2, 1) := by decide +kernel
theorem dX8_odds_9 : decode cX8_odds 9 = .ok (.i2l, 1) := by decide +kernel
theorem dX8_odds_10 : decode cX8_odds 10 = .ok (.lconst 0, 1) := by decide +kernel
theorem dX8_odds_11 : decode cX8_odds 11 = .ok (.lconst 1, 1) := by decide +kernel
theorem dX8_odds_12 : decode cX8_odds 12 = .ok (.invokestatic 57, 3) := by decide +kernel
theorem dX8_odds_15 : decode cX8_odds 15 = .ok (.ifCond .ne 7, 3) := by decide +kernel
theorem dX8_odds_18 : decode cX8_odds 18 = .ok (.ldc2_w 254, 3) := by decide +kernel
theorem dX8_odds_21 : decode cX8_odds 21 = .ok (.lreturn, 1) := by decide +kernel
theorem dX8_odds_22 : decode cX8_odds 22 = .ok (.lconst 0, 1) := by decide +kernel
theorem dX8_odds_23 : decode cX8_odds 23 = .ok (.lstore_n 3, 1) := by decide +kernel
theorem dX8_odds_24 : decode cX8_odds 24 = .ok (.lconst 0, 1) := by decide +kernel
theorem dX8_odds_25 : decode cX8_odds 25 = .ok (.lstore 5, 2) := by decide +kernel
theorem dX8_odds_27 : decode cX8_odds 27 = .ok (.iconst 0, 1) := by decide +kernel
theorem dX8_odds_28 : decode cX8_odds 28 = .ok (.istore 7, 2) := by decide +kernel
theorem dX8_odds_30 : decode cX8_odds 30 = .ok (.iload 7, 2) := by decide +kernel
theorem dX8_odds_32 : decode cX8_odds 32 = .ok (.bipush 24, 2) := by decide +kernel
theorem dX8_odds_34 : decode cX8_odds 34 = .ok (.if_icmp .ge 69, 3) := by decide +kernel
theorem dX8_odds_37 : decode cX8_odds 37 = .ok (.iconst 0, 1) := by decide +kernel
theorem dX8_odds_38 : decode cX8_odds 38 = .ok (.istore 8, 2) := by decide +kernel
theorem dX8_odds_40 : decode cX8_odds 40 = .ok (.aload_n 0, 1) := by decide +kernel
theorem dX8_odds_41 : decode cX8_odds 41 = .ok (.iload 7, 2) := by decide +kernel
theorem dX8_odds_43 : decode cX8_odds 43 = .ok (.iload 8, 2) := by decide +kernel
theorem dX8_odds_45 : decode cX8_odds 45 = .ok (.invokevirtual 96, 3) := by decide +kernel
theorem dX8_odds_48 : decode cX8_odds 48 = .ok (.ifCond .eq 49, 3) := by decide +kernel
theorem dX8_odds_51 : decode cX8_odds 51 = .ok (.aload_n 0, 1) := by decide +kernel
theorem dX8_odds_52 : decode cX8_odds 52 = .ok (.getfield 11, 3) := by decide +kernel
theorem dX8_odds_55 : decode cX8_odds 55 = .ok (.iload 7, 2) := by decide +kernel
theorem dX8_odds_57 : decode cX8_odds 57 = .ok (.iload 8, 2) := by decide +kernel
theorem dX8_odds_59 : decode cX8_odds 59 = .ok (.invokestatic 85, 3) := by decide +kernel
theorem dX8_odds_62 : decode cX8_odds 62 = .ok (.ifCond .lt 29, 3) := by decide +kernel
theorem dX8_odds_65 : decode cX8_odds 65 = .ok (.lload_n 3, 1) := by decide +kernel
theorem dX8_odds_66 : decode cX8_odds 66 = .ok (.lconst 1, 1) := by decide +kernel
theorem dX8_odds_67 : decode cX8_odds 67 = .ok (.ladd, 1) := by decide +kernel
theorem dX8_odds_68 : decode cX8_odds 68 = .ok (.lstore_n 3, 1) := by decide +kernel
theorem dX8_odds_69 : decode cX8_odds 69 = .ok (.lload 5, 2) := by decide +kernel
theorem dX8_odds_71 : decode cX8_odds 71 = .ok (.aload_n 0, 1) := by decide +kernel
theorem dX8_odds_72 : decode cX8_odds 72 = .ok (.iload 7, 2) := by decide +kernel
theorem dX8_odds_74 : decode cX8_odds 74 = .ok (.iload 8, 2) := by decide +kernel
theorem dX8_odds_76 : decode cX8_odds 76 = .ok (.iload_n 1, 1) := by decide +kernel
theorem dX8_odds_77 : decode cX8_odds 77 = .ok (.invokevirtual 102, 3) := by decide +kernel
theorem dX8_odds_80 : decode cX8_odds 80 = .ok (.ifCond .eq 7, 3) := by decide +kernel
theorem dX8_odds_83 : decode cX8_odds 83 = .ok (.lconst 1, 1) := by decide +kernel
theorem dX8_odds_84 : decode cX8_odds 84 = .ok (.goto 4, 3) := by decide +kernel
theorem dX8_odds_87 : decode cX8_odds 87 = .ok (.lconst 0, 1) := by decide +kernel
theorem dX8_odds_88 : decode cX8_odds 88 = .ok (.ladd, 1) := by decide +kernel
theorem dX8_odds_89 : decode cX8_odds 89 = .ok (.lstore 5, 2) := by decide +kernel
theorem dX8_odds_91 : decode cX8_odds 91 = .ok (.iinc 8 1, 3) := by decide +kernel
theorem dX8_odds_94 : decode cX8_odds 94 = .ok (.goto (-54), 3) := by decide +kernel
theorem dX8_odds_97 : decode cX8_odds 97 = .ok (.iinc 7 1, 3) := by decide +kernel
theorem dX8_odds_100 : decode cX8_odds 100 = .ok (.goto (-70), 3) := by decide +kernel
theorem dX8_odds_103 : decode cX8_odds 103 = .ok (.lload_n 3, 1) := by decide +kernel
theorem dX8_odds_104 : decode cX8_odds 104 = .ok (.lconst 0, 1) := by decide +kernel
theorem dX8_odds_105 : decode cX8_odds 105 = .ok (.lcmp, 1) := by decide +kernel
theorem dX8_odds_106 : decode cX8_odds 106 = .ok (.ifCond .ne 9, 3) := by decide +kernel
theorem dX8_odds_109 : decode cX8_odds 109 = .ok (.ldc2_w 254, 3) := by decide +kernel
theorem dX8_odds_112 : decode cX8_odds 112 = .ok (.goto 10, 3) := by decide +kernel
theorem dX8_odds_115 : decode cX8_odds 115 = .ok (.lload 5, 2) := by decide +kernel
theorem dX8_odds_117 : decode cX8_odds 117 = .ok (.lload_n 3, 1) := by decide +kernel
theorem dX8_odds_118 : decode cX8_odds 118 = .ok (.iload_n 2, 1) := by decide +kernel
theorem dX8_odds_119 : decode cX8_odds 119 = .ok (.invokestatic 256, 3) := by decide +kernel
theorem dX8_odds_122 : decode cX8_odds 122 = .ok (.lreturn, 1) := by decide +kernel
theorem dX8_mean_0 : decode cX8_mean 0 = .ok (.aload_n 0, 1) := by decide +kernel
theorem dX8_mean_1 : decode cX8_mean 1 = .ok (.getfield 11, 3) := by decide +kernel
theorem dX8_mean_4 : decode cX8_mean 4 = .ok (.invokestatic 99, 3) := by decide +kernel
theorem dX8_mean_7 : decode cX8_mean 7 = .ok (.istore_n 2, 1) := by decide +kernel
theorem dX8_mean_8 : decode cX8_mean 8 = .ok (.iload_n 1, 1) := by decide +kernel
theorem dX8_mean_9 : decode cX8_mean 9 = .ok (.i2l, 1) := by decide +kernel
theorem dX8_mean_10 : decode cX8_mean 10 = .ok (.lconst 0, 1) := by decide +kernel
theorem dX8_mean_11 : decode cX8_mean 11 = .ok (.lconst 1, 1) := by decide +kernel
theorem dX8_mean_12 : decode cX8_mean 12 = .ok (.invokestatic 57, 3) := by decide +kernel
theorem dX8_mean_15 : decode cX8_mean 15 = .ok (.ifCond .eq 7, 3) := by decide +kernel
theorem dX8_mean_18 : decode cX8_mean 18 = .ok (.iload_n 2, 1) := by decide +kernel
theorem dX8_mean_19 : decode cX8_mean 19 = .ok (.ifCond .ne 7, 3) := by decide +kernel
theorem dX8_mean_22 : decode cX8_mean 22 = .ok (.ldc2_w 254, 3) := by decide +kernel
theorem dX8_mean_25 : decode cX8_mean 25 = .ok (.lreturn, 1) := by decide +kernel
theorem dX8_mean_26 : decode cX8_mean 26 = .ok (.lconst 0, 1) := by decide +kernel
theorem dX8_mean_27 : decode cX8_mean 27 = .ok (.lstore_n 3, 1) := by decide +kernel
theorem dX8_mean_28 : decode cX8_mean 28 = .ok (.iconst 0, 1) := by decide +kernel
theorem dX8_mean_29 : decode cX8_mean 29 = .ok (.istore 5, 2) := by decide +kernel
theorem dX8_mean_31 : decode cX8_mean 31 = .ok (.iload 5, 2) := by decide +kernel
theorem dX8_mean_33 : decode cX8_mean 33 = .ok (.bipush 24, 2) := by decide +kernel
theorem dX8_mean_35 : decode cX8_mean 35 = .ok (.if_icmp .ge 35, 3) := by decide +kernel
theorem dX8_mean_38 : decode cX8_mean 38 = .ok (.lload_n 3, 1) := by decide +kernel
theorem dX8_mean_39 : decode cX8_mean 39 = .ok (.iload_n 2, 1) := by decide +kernel
theorem dX8_mean_40 : decode cX8_mean 40 = .ok (.iload 5, 2) := by decide +kernel
theorem dX8_mean_42 : decode cX8_mean 42 = .ok (.invokestatic 61, 3) := by decide +kernel
theorem dX8_mean_45 : decode cX8_mean 45 = .ok (.ifCond .eq 16, 3) := by decide +kernel
theorem dX8_mean_48 : decode cX8_mean 48 = .ok (.aload_n 0, 1) := by decide +kernel
theorem dX8_mean_49 : decode cX8_mean 49 = .ok (.getfield 11, 3) := by decide +kernel
theorem dX8_mean_52 : decode cX8_mean 52 = .ok (.iload 5, 2) := by decide +kernel
theorem dX8_mean_54 : decode cX8_mean 54 = .ok (.invokestatic 114, 3) := by decide +kernel
theorem dX8_mean_57 : decode cX8_mean 57 = .ok (.i2l, 1) := by decide +kernel
theorem dX8_mean_58 : decode cX8_mean 58 = .ok (.goto 4, 3) := by decide +kernel
theorem dX8_mean_61 : decode cX8_mean 61 = .ok (.lconst 0, 1) := by decide +kernel
theorem dX8_mean_62 : decode cX8_mean 62 = .ok (.ladd, 1) := by decide +kernel
theorem dX8_mean_63 : decode cX8_mean 63 = .ok (.lstore_n 3, 1) := by decide +kernel
theorem dX8_mean_64 : decode cX8_mean 64 = .ok (.iinc 5 1, 3) := by decide +kernel
theorem dX8_mean_67 : decode cX8_mean 67 = .ok (.goto (-36), 3) := by decide +kernel
theorem dX8_mean_70 : decode cX8_mean 70 = .ok (.lload_n 3, 1) := by decide +kernel
theorem dX8_mean_71 : decode cX8_mean 71 = .ok (.iload_n 2, 1) := by decide +kernel
theorem dX8_mean_72 : decode cX8_mean 72 = .ok (.invokestatic 205, 3) := by decide +kernel
theorem dX8_mean_75 : decode cX8_mean 75 = .ok (.i2l, 1) := by decide +kernel
theorem dX8_mean_76 : decode cX8_mean 76 = .ok (.iload_n 1, 1) := by decide +kernel
theorem dX8_mean_77 : decode cX8_mean 77 = .ok (.invokestatic 256, 3) := by decide +kernel
theorem dX8_mean_80 : decode cX8_mean 80 = .ok (.lreturn, 1) := by decide +kernel
theorem dX8_isPlanned_0 : decode cX8_isPlanned 0 = .ok (.iload_n 1, 1) := by decide +kernel
theorem dX8_isPlanned_1 : decode cX8_isPlanned 1 = .ok (.ifCond .ne 22, 3) := by decide +kernel
theorem dX8_isPlanned_4 : decode cX8_isPlanned 4 = .ok (.iload_n 2, 1) := by decide +kernel
theorem dX8_isPlanned_5 : decode cX8_isPlanned 5 = .ok (.ifCond .lt 18, 3) := by decide +kernel
theorem dX8_isPlanned_8 : decode cX8_isPlanned 8 = .ok (.aload_n 0, 1) := by decide +kernel
theorem dX8_isPlanned_9 : decode cX8_isPlanned 9 = .ok (.iload_n 2, 1) := by decide +kernel
theorem dX8_isPlanned_10 : decode cX8_isPlanned 10 = .ok (.bipush 10, 2) := by decide +kernel
theorem dX8_isPlanned_12 : decode cX8_isPlanned 12 = .ok (.idiv, 1) := by decide +kernel
theorem dX8_isPlanned_13 : decode cX8_isPlanned 13 = .ok (.iload_n 2, 1) := by decide +kernel
theorem dX8_isPlanned_14 : decode cX8_isPlanned 14 = .ok (.bipush 10, 2) := by decide +kernel
theorem dX8_isPlanned_16 : decode cX8_isPlanned 16 = .ok (.irem, 1) := by decide +kernel
theorem dX8_isPlanned_17 : decode cX8_isPlanned 17 = .ok (.invokevirtual 96, 3) := by decide +kernel
theorem dX8_isPlanned_20 : decode cX8_isPlanned 20 = .ok (.ifCond .ne 33, 3) := by decide +kernel
theorem dX8_isPlanned_23 : decode cX8_isPlanned 23 = .ok (.iload_n 1, 1) := by decide +kernel
theorem dX8_isPlanned_24 : decode cX8_isPlanned 24 = .ok (.iconst 1, 1) := by decide +kernel
theorem dX8_isPlanned_25 : decode cX8_isPlanned 25 = .ok (.if_icmp .ne 15, 3) := by decide +kernel
theorem dX8_isPlanned_28 : decode cX8_isPlanned 28 = .ok (.iload_n 2, 1) := by decide +kernel
theorem dX8_isPlanned_29 : decode cX8_isPlanned 29 = .ok (.i2l, 1) := by decide +kernel
theorem dX8_isPlanned_30 : decode cX8_isPlanned 30 = .ok (.lconst 0, 1) := by decide +kernel
theorem dX8_isPlanned_31 : decode cX8_isPlanned 31 = .ok (.ldc2_w 135, 3) := by decide +kernel
theorem dX8_isPlanned_34 : decode cX8_isPlanned 34 = .ok (.invokestatic 57, 3) := by decide +kernel
theorem dX8_isPlanned_37 : decode cX8_isPlanned 37 = .ok (.ifCond .ne 16, 3) := by decide +kernel
theorem dX8_isPlanned_40 : decode cX8_isPlanned 40 = .ok (.iload_n 1, 1) := by decide +kernel
theorem dX8_isPlanned_41 : decode cX8_isPlanned 41 = .ok (.iconst 2, 1) := by decide +kernel
theorem dX8_isPlanned_42 : decode cX8_isPlanned 42 = .ok (.if_icmp .ne 15, 3) := by decide +kernel
theorem dX8_isPlanned_45 : decode cX8_isPlanned 45 = .ok (.aload_n 0, 1) := by decide +kernel
theorem dX8_isPlanned_46 : decode cX8_isPlanned 46 = .ok (.iload_n 2, 1) := by decide +kernel
theorem dX8_isPlanned_47 : decode cX8_isPlanned 47 = .ok (.invokevirtual 65, 3) := by decide +kernel
theorem dX8_isPlanned_50 : decode cX8_isPlanned 50 = .ok (.ifCond .eq 7, 3) := by decide +kernel
theorem dX8_isPlanned_53 : decode cX8_isPlanned 53 = .ok (.iconst 1, 1) := by decide +kernel
theorem dX8_isPlanned_54 : decode cX8_isPlanned 54 = .ok (.goto 4, 3) := by decide +kernel
theorem dX8_isPlanned_57 : decode cX8_isPlanned 57 = .ok (.iconst 0, 1) := by decide +kernel
theorem dX8_isPlanned_58 : decode cX8_isPlanned 58 = .ok (.ireturn, 1) := by decide +kernel
theorem dX8_plan_0 : decode cX8_plan 0 = .ok (.iload_n 1, 1) := by decide +kernel
theorem dX8_plan_1 : decode cX8_plan 1 = .ok (.iconst (-1), 1) := by decide +kernel
theorem dX8_plan_2 : decode cX8_plan 2 = .ok (.if_icmp .ne 14, 3) := by decide +kernel
theorem dX8_plan_5 : decode cX8_plan 5 = .ok (.aload_n 0, 1) := by decide +kernel
theorem dX8_plan_6 : decode cX8_plan 6 = .ok (.getfield 11, 3) := by decide +kernel
theorem dX8_plan_9 : decode cX8_plan 9 = .ok (.sipush 320, 3) := by decide +kernel
theorem dX8_plan_12 : decode cX8_plan 12 = .ok (.iconst 0, 1) := by decide +kernel
theorem dX8_plan_13 : decode cX8_plan 13 = .ok (.iastore, 1) := by decide +kernel
theorem dX8_plan_14 : decode cX8_plan 14 = .ok (.iconst 0, 1) := by decide +kernel
theorem dX8_plan_15 : decode cX8_plan 15 = .ok (.ireturn, 1) := by decide +kernel
theorem dX8_plan_16 : decode cX8_plan 16 = .ok (.aload_n 0, 1) := by decide +kernel
theorem dX8_plan_17 : decode cX8_plan 17 = .ok (.iload_n 1, 1) := by decide +kernel
theorem dX8_plan_18 : decode cX8_plan 18 = .ok (.iload_n 2, 1) := by decide +kernel
theorem dX8_plan_19 : decode cX8_plan 19 = .ok (.invokevirtual 260, 3) := by decide +kernel
theorem dX8_plan_22 : decode cX8_plan 22 = .ok (.ifCond .ne 5, 3) := by decide +kernel
theorem dX8_plan_25 : decode cX8_plan 25 = .ok (.iconst (-1), 1) := by decide +kernel
theorem dX8_plan_26 : decode cX8_plan 26 = .ok (.ireturn, 1) := by decide +kernel
theorem dX8_plan_27 : decode cX8_plan 27 = .ok (.aload_n 0, 1) := by decide +kernel
theorem dX8_plan_28 : decode cX8_plan 28 = .ok (.getfield 11, 3) := by decide +kernel
theorem dX8_plan_31 : decode cX8_plan 31 = .ok (.sipush 320, 3) := by decide +kernel
theorem dX8_plan_34 : decode cX8_plan 34 = .ok (.iaload, 1) := by decide +kernel
theorem dX8_plan_35 : decode cX8_plan 35 = .ok (.istore_n 3, 1) := by decide +kernel
theorem dX8_plan_36 : decode cX8_plan 36 = .ok (.iload_n 3, 1) := by decide +kernel
theorem dX8_plan_37 : decode cX8_plan 37 = .ok (.bipush 10, 2) := by decide +kernel
theorem dX8_plan_39 : decode cX8_plan 39 = .ok (.if_icmp .ne 6, 3) := by decide +kernel
theorem dX8_plan_42 : decode cX8_plan 42 = .ok (.bipush (-4), 2) := by decide +kernel
theorem dX8_plan_44 : decode cX8_plan 44 = .ok (.ireturn, 1) := by decide +kernel
theorem dX8_plan_45 : decode cX8_plan 45 = .ok (.aload_n 0, 1) := by decide +kernel
theorem dX8_plan_46 : decode cX8_plan 46 = .ok (.getfield 11, 3) := by decide +kernel
theorem dX8_plan_49 : decode cX8_plan 49 = .ok (.sipush 300, 3) := by decide +kernel
theorem dX8_plan_52 : decode cX8_plan 52 = .ok (.iconst 2, 1) := by decide +kernel
theorem dX8_plan_53 : decode cX8_plan 53 = .ok (.iload_n 3, 1) := by decide +kernel
theorem dX8_plan_54 : decode cX8_plan 54 = .ok (.imul, 1) := by decide +kernel
theorem dX8_plan_55 : decode cX8_plan 55 = .ok (.iadd, 1) := by decide +kernel
theorem dX8_plan_56 : decode cX8_plan 56 = .ok (.iload_n 1, 1) := by decide +kernel
theorem dX8_plan_57 : decode cX8_plan 57 = .ok (.iastore, 1) := by decide +kernel
theorem dX8_plan_58 : decode cX8_plan 58 = .ok (.aload_n 0, 1) := by decide +kernel
theorem dX8_plan_59 : decode cX8_plan 59 = .ok (.getfield 11, 3) := by decide +kernel
theorem dX8_plan_62 : decode cX8_plan 62 = .ok (.sipush 300, 3) := by decide +kernel
theorem dX8_plan_65 : decode cX8_plan 65 = .ok (.iconst 2, 1) := by decide +kernel
theorem dX8_plan_66 : decode cX8_plan 66 = .ok (.iload_n 3, 1) := by decide +kernel
theorem dX8_plan_67 : decode cX8_plan 67 = .ok (.imul, 1) := by decide +kernel
theorem dX8_plan_68 : decode cX8_plan 68 = .ok (.iadd, 1) := by decide +kernel
theorem dX8_plan_69 : decode cX8_plan 69 = .ok (.iconst 1, 1) := by decide +kernel
theorem dX8_plan_70 : decode cX8_plan 70 = .ok (.iadd, 1) := by decide +kernel
theorem dX8_plan_71 : decode cX8_plan 71 = .ok (.iload_n 2, 1) := by decide +kernel
theorem dX8_plan_72 : decode cX8_plan 72 = .ok (.iastore, 1) := by decide +kernel
theorem dX8_plan_73 : decode cX8_plan 73 = .ok (.aload_n 0, 1) := by decide +kernel
theorem dX8_plan_74 : decode cX8_plan 74 = .ok (.getfield 11, 3) := by decide +kernel
theorem dX8_plan_77 : decode cX8_plan 77 = .ok (.sipush 320, 3) := by decide +kernel
theorem dX8_plan_80 : decode cX8_plan 80 = .ok (.iload_n 3, 1) := by decide +kernel
theorem dX8_plan_81 : decode cX8_plan 81 = .ok (.iconst 1, 1) := by decide +kernel
theorem dX8_plan_82 : decode cX8_plan 82 = .ok (.iadd, 1) := by decide +kernel
theorem dX8_plan_83 : decode cX8_plan 83 = .ok (.iastore, 1) := by decide +kernel
theorem dX8_plan_84 : decode cX8_plan 84 = .ok (.iload_n 3, 1) := by decide +kernel
theorem dX8_plan_85 : decode cX8_plan 85 = .ok (.iconst 1, 1) := by decide +kernel
theorem dX8_plan_86 : decode cX8_plan 86 = .ok (.iadd, 1) := by decide +kernel
theorem dX8_plan_87 : decode cX8_plan 87 = .ok (.ireturn, 1) := by decide +kernel
theorem dX8_ends_0 : decode cX8_ends 0 = .ok (.aload_n 0, 1) := by decide +kernel
theorem dX8_ends_1 : decode cX8_ends 1 = .ok (.getfield 11, 3) := by decide +kernel
theorem dX8_ends_4 : decode cX8_ends 4 = .ok (.aload_n 0, 1) := by decide +kernel
theorem dX8_ends_5 : decode cX8_ends 5 = .ok (.getfield 15, 3) := by decide +kernel
theorem dX8_ends_8 : decode cX8_ends 8 = .ok (.invokestatic 224, 3) := by decide +kernel
theorem dX8_ends_11 : decode cX8_ends 11 = .ok (.iconst 0, 1) := by decide +kernel
theorem dX8_ends_12 : decode cX8_ends 12 = .ok (.istore_n 1, 1) := by decide +kernel
theorem dX8_ends_13 : decode cX8_ends 13 = .ok (.iload_n 1, 1) := by decide +kernel
theorem dX8_ends_14 : decode cX8_ends 14 = .ok (.aload_n 0, 1) := by decide +kernel
theorem dX8_ends_15 : decode cX8_ends 15 = .ok (.getfield 11, 3) := by decide +kernel
theorem dX8_ends_18 : decode cX8_ends 18 = .ok (.sipush 320, 3) := by decide +kernel
theorem dX8_ends_21 : decode cX8_ends 21 = .ok (.iaload, 1) := by decide +kernel
theorem dX8_ends_22 : decode cX8_ends 22 = .ok (.if_icmp .ge 99, 3) := by decide +kernel
theorem dX8_ends_25 : decode cX8_ends 25 = .ok (.aload_n 0, 1) := by decide +kernel
theorem dX8_ends_26 : decode cX8_ends 26 = .ok (.getfield 11, 3) := by decide +kernel
theorem dX8_ends_29 : decode cX8_ends 29 = .ok (.sipush 300, 3) := by decide +kernel
theorem dX8_ends_32 : decode cX8_ends 32 = .ok (.iconst 2, 1) := by decide +kernel
theorem dX8_ends_33 : decode cX8_ends 33 = .ok (.iload_n 1, 1) := by decide +kernel
theorem dX8_ends_34 : decode cX8_ends 34 = .ok (.imul, 1) := by decide +kernel
theorem dX8_ends_35 : decode cX8_ends 35 = .ok (.iadd, 1) := by decide +kernel
theorem dX8_ends_36 : decode cX8_ends 36 = .ok (.iaload, 1) := by decide +kernel
theorem dX8_ends_37 : decode cX8_ends 37 = .ok (.istore_n 2, 1) := by decide +kernel
theorem dX8_ends_38 : decode cX8_ends 38 = .ok (.aload_n 0, 1) := by decide +kernel
theorem dX8_ends_39 : decode cX8_ends 39 = .ok (.getfield 11, 3) := by decide +kernel
theorem dX8_ends_42 : decode cX8_ends 42 = .ok (.sipush 300, 3) := by decide +kernel
theorem dX8_ends_45 : decode cX8_ends 45 = .ok (.iconst 2, 1) := by decide +kernel
theorem dX8_ends_46 : decode cX8_ends 46 = .ok (.iload_n 1, 1) := by decide +kernel
theorem dX8_ends_47 : decode cX8_ends 47 = .ok (.imul, 1) := by decide +kernel
theorem dX8_ends_48 : decode cX8_ends 48 = .ok (.iadd, 1) := by decide +kernel
theorem dX8_ends_49 : decode cX8_ends 49 = .ok (.iconst 1, 1) := by decide +kernel
theorem dX8_ends_50 : decode cX8_ends 50 = .ok (.iadd, 1) := by decide +kernel
theorem dX8_ends_51 : decode cX8_ends 51 = .ok (.iaload, 1) := by decide +kernel
theorem dX8_ends_52 : decode cX8_ends 52 = .ok (.istore_n 3, 1) := by decide +kernel
theorem dX8_ends_53 : decode cX8_ends 53 = .ok (.iload_n 2, 1) := by decide +kernel
theorem dX8_ends_54 : decode cX8_ends 54 = .ok (.ifCond .ne 29, 3) := by decide +kernel
theorem dX8_ends_57 : decode cX8_ends 57 = .ok (.aload_n 0, 1) := by decide +kernel
theorem dX8_ends_58 : decode cX8_ends 58 = .ok (.getfield 15, 3) := by decide +kernel
theorem dX8_ends_61 : decode cX8_ends 61 = .ok (.sipush 140, 3) := by decide +kernel
theorem dX8_ends_64 : decode cX8_ends 64 = .ok (.bipush 6, 2) := by decide +kernel
theorem dX8_ends_66 : decode cX8_ends 66 = .ok (.iload_n 3, 1) := by decide +kernel
theorem dX8_ends_67 : decode cX8_ends 67 = .ok (.bipush 10, 2) := by decide +kernel
theorem dX8_ends_69 : decode cX8_ends 69 = .ok (.idiv, 1) := by decide +kernel
theorem dX8_ends_70 : decode cX8_ends 70 = .ok (.imul, 1) := by decide +kernel
theorem dX8_ends_71 : decode cX8_ends 71 = .ok (.iadd, 1) := by decide +kernel
theorem dX8_ends_72 : decode cX8_ends 72 = .ok (.iload_n 3, 1) := by decide +kernel
theorem dX8_ends_73 : decode cX8_ends 73 = .ok (.bipush 10, 2) := by decide +kernel
theorem dX8_ends_75 : decode cX8_ends 75 = .ok (.irem, 1) := by decide +kernel
theorem dX8_ends_76 : decode cX8_ends 76 = .ok (.iadd, 1) := by decide +kernel
theorem dX8_ends_77 : decode cX8_ends 77 = .ok (.bipush (-5), 2) := by decide +kernel
theorem dX8_ends_79 : decode cX8_ends 79 = .ok (.iastore, 1) := by decide +kernel
theorem dX8_ends_80 : decode cX8_ends 80 = .ok (.goto 35, 3) := by decide +kernel
theorem dX8_ends_83 : decode cX8_ends 83 = .ok (.aload_n 0, 1) := by decide +kernel
theorem dX8_ends_84 : decode cX8_ends 84 = .ok (.getfield 15, 3) := by decide +kernel
theorem dX8_ends_87 : decode cX8_ends 87 = .ok (.iload_n 2, 1) := by decide +kernel
theorem dX8_ends_88 : decode cX8_ends 88 = .ok (.iconst 1, 1) := by decide +kernel
theorem dX8_ends_89 : decode cX8_ends 89 = .ok (.if_icmp .ne 10, 3) := by decide +kernel
theorem dX8_ends_92 : decode cX8_ends 92 = .ok (.bipush 16, 2) := by decide +kernel
theorem dX8_ends_94 : decode cX8_ends 94 = .ok (.iload_n 3, 1) := by decide +kernel
theorem dX8_ends_95 : decode cX8_ends 95 = .ok (.iadd, 1) := by decide +kernel
theorem dX8_ends_96 : decode cX8_ends 96 = .ok (.goto 7, 3) := by decide +kernel
theorem dX8_ends_99 : decode cX8_ends 99 = .ok (.bipush 44, 2) := by decide +kernel
theorem dX8_ends_101 : decode cX8_ends 101 = .ok (.iload_n 3, 1) := by decide +kernel
theorem dX8_ends_102 : decode cX8_ends 102 = .ok (.iadd, 1) := by decide +kernel
theorem dX8_ends_103 : decode cX8_ends 103 = .ok (.iload_n 2, 1) := by decide +kernel
theorem dX8_ends_104 : decode cX8_ends 104 = .ok (.iconst 1, 1) := by decide +kernel
theorem dX8_ends_105 : decode cX8_ends 105 = .ok (.if_icmp .ne 8, 3) := by decide +kernel
theorem dX8_ends_108 : decode cX8_ends 108 = .ok (.bipush (-5), 2) := by decide +kernel
theorem dX8_ends_110 : decode cX8_ends 110 = .ok (.goto 4, 3) := by decide +kernel
theorem dX8_ends_113 : decode cX8_ends 113 = .ok (.iconst 0, 1) := by decide +kernel
theorem dX8_ends_114 : decode cX8_ends 114 = .ok (.iastore, 1) := by decide +kernel
theorem dX8_ends_115 : decode cX8_ends 115 = .ok (.iinc 1 1, 3) := by decide +kernel
theorem dX8_ends_118 : decode cX8_ends 118 = .ok (.goto (-105), 3) := by decide +kernel
theorem dX8_ends_121 : decode cX8_ends 121 = .ok (.aload_n 0, 1) := by decide +kernel
theorem dX8_ends_122 : decode cX8_ends 122 = .ok (.getfield 15, 3) := by decide +kernel
theorem dX8_ends_125 : decode cX8_ends 125 = .ok (.invokestatic 99, 3) := by decide +kernel
theorem dX8_ends_128 : decode cX8_ends 128 = .ok (.ireturn, 1) := by decide +kernel
theorem dX8_book_0 : decode cX8_book 0 = .ok (.iload_n 1, 1) := by decide +kernel
theorem dX8_book_1 : decode cX8_book 1 = .ok (.iconst (-1), 1) := by decide +kernel
theorem dX8_book_2 : decode cX8_book 2 = .ok (.if_icmp .ne 14, 3) := by decide +kernel
theorem dX8_book_5 : decode cX8_book 5 = .ok (.aload_n 0, 1) := by decide +kernel
theorem dX8_book_6 : decode cX8_book 6 = .ok (.getfield 11, 3) := by decide +kernel
theorem dX8_book_9 : decode cX8_book 9 = .ok (.sipush 345, 3) := by decide +kernel
theorem dX8_book_12 : decode cX8_book 12 = .ok (.iconst 0, 1) := by decide +kernel
theorem dX8_book_13 : decode cX8_book 13 = .ok (.iastore, 1) := by decide +kernel
theorem dX8_book_14 : decode cX8_book 14 = .ok (.iconst 0, 1) := by decide +kernel
theorem dX8_book_15 : decode cX8_book 15 = .ok (.ireturn, 1) := by decide +kernel
theorem dX8_book_16 : decode cX8_book 16 = .ok (.aload_n 0, 1) := by decide +kernel
theorem dX8_book_17 : decode cX8_book 17 = .ok (.iload_n 1, 1) := by decide +kernel
theorem dX8_book_18 : decode cX8_book 18 = .ok (.iload_n 2, 1) := by decide +kernel
theorem dX8_book_19 : decode cX8_book 19 = .ok (.invokevirtual 96, 3) := by decide +kernel
theorem dX8_book_22 : decode cX8_book 22 = .ok (.ifCond .eq 16, 3) := by decide +kernel
theorem dX8_book_25 : decode cX8_book 25 = .ok (.iload_n 3, 1) := by decide +kernel
theorem dX8_book_26 : decode cX8_book 26 = .ok (.iconst (-1), 1) := by decide +kernel
theorem dX8_book_27 : decode cX8_book 27 = .ok (.if_icmp .eq 13, 3) := by decide +kernel
theorem dX8_book_30 : decode cX8_book 30 = .ok (.aload_n 0, 1) := by decide +kernel
theorem dX8_book_31 : decode cX8_book 31 = .ok (.iload_n 3, 1) := by decide +kernel
theorem dX8_book_32 : decode cX8_book 32 = .ok (.invokevirtual 65, 3) := by decide +kernel
theorem dX8_book_35 : decode cX8_book 35 = .ok (.ifCond .ne 5, 3) := by decide +kernel
theorem dX8_book_38 : decode cX8_book 38 = .ok (.iconst (-1), 1) := by decide +kernel
theorem dX8_book_39 : decode cX8_book 39 = .ok (.ireturn, 1) := by decide +kernel
theorem dX8_book_40 : decode cX8_book 40 = .ok (.aload_n 0, 1) := by decide +kernel
theorem dX8_book_41 : decode cX8_book 41 = .ok (.getfield 11, 3) := by decide +kernel
theorem dX8_book_44 : decode cX8_book 44 = .ok (.sipush 345, 3) := by decide +kernel
theorem dX8_book_47 : decode cX8_book 47 = .ok (.iaload, 1) := by decide +kernel
theorem dX8_book_48 : decode cX8_book 48 = .ok (.istore 4, 2) := by decide +kernel
theorem dX8_book_50 : decode cX8_book 50 = .ok (.iload 4, 2) := by decide +kernel
theorem dX8_book_52 : decode cX8_book 52 = .ok (.bipush 8, 2) := by decide +kernel
theorem dX8_book_54 : decode cX8_book 54 = .ok (.if_icmp .ne 6, 3) := by decide +kernel
theorem dX8_book_57 : decode cX8_book 57 = .ok (.bipush (-4), 2) := by decide +kernel
theorem dX8_book_59 : decode cX8_book 59 = .ok (.ireturn, 1) := by decide +kernel
theorem dX8_book_60 : decode cX8_book 60 = .ok (.aload_n 0, 1) := by decide +kernel
theorem dX8_book_61 : decode cX8_book 61 = .ok (.getfield 11, 3) := by decide +kernel
theorem dX8_book_64 : decode cX8_book 64 = .ok (.sipush 321, 3) := by decide +kernel
theorem dX8_book_67 : decode cX8_book 67 = .ok (.iconst 3, 1) := by decide +kernel
theorem dX8_book_68 : decode cX8_book 68 = .ok (.iload 4, 2) := by decide +kernel
theorem dX8_book_70 : decode cX8_book 70 = .ok (.imul, 1) := by decide +kernel
theorem dX8_book_71 : decode cX8_book 71 = .ok (.iadd, 1) := by decide +kernel
theorem dX8_book_72 : decode cX8_book 72 = .ok (.iload_n 1, 1) := by decide +kernel
theorem dX8_book_73 : decode cX8_book 73 = .ok (.iastore, 1) := by decide +kernel
theorem dX8_book_74 : decode cX8_book 74 = .ok (.aload_n 0, 1) := by decide +kernel
theorem dX8_book_75 : decode cX8_book 75 = .ok (.getfield 11, 3) := by decide +kernel
theorem dX8_book_78 : decode cX8_book 78 = .ok (.sipush 321, 3) := by decide +kernel
theorem dX8_book_81 : decode cX8_book 81 = .ok (.iconst 3, 1) := by decide +kernel
theorem dX8_book_82 : decode cX8_book 82 = .ok (.iload 4, 2) := by decide +kernel
theorem dX8_book_84 : decode cX8_book 84 = .ok (.imul, 1) := by decide +kernel
theorem dX8_book_85 : decode cX8_book 85 = .ok (.iadd, 1) := by decide +kernel
theorem dX8_book_86 : decode cX8_book 86 = .ok (.iconst 1, 1) := by decide +kernel
theorem dX8_book_87 : decode cX8_book 87 = .ok (.iadd, 1) := by decide +kernel
theorem dX8_book_88 : decode cX8_book 88 = .ok (.iload_n 2, 1) := by decide +kernel
theorem dX8_book_89 : decode cX8_book 89 = .ok (.iastore, 1) := by decide +kernel
theorem dX8_book_90 : decode cX8_book 90 = .ok (.aload_n 0, 1) := by decide +kernel
theorem dX8_book_91 : decode cX8_book 91 = .ok (.getfield 11, 3) := by decide +kernel
theorem dX8_book_94 : decode cX8_book 94 = .ok (.sipush 321, 3) := by decide +kernel
theorem dX8_book_97 : decode cX8_book 97 = .ok (.iconst 3, 1) := by decide +kernel
theorem dX8_book_98 : decode cX8_book 98 = .ok (.iload 4, 2) := by decide +kernel
theorem dX8_book_100 : decode cX8_book 100 = .ok (.imul, 1) := by decide +kernel
theorem dX8_book_101 : decode cX8_book 101 = .ok (.iadd, 1) := by decide +kernel
theorem dX8_book_102 : decode cX8_book 102 = .ok (.iconst 2, 1) := by decide +kernel
theorem dX8_book_103 : decode cX8_book 103 = .ok (.iadd, 1) := by decide +kernel
theorem dX8_book_104 : decode cX8_book 104 = .ok (.iload_n 3, 1) := by decide +kernel
theorem dX8_book_105 : decode cX8_book 105 = .ok (.iconst (-1), 1) := by decide +kernel
theorem dX8_book_106 : decode cX8_book 106 = .ok (.if_icmp .ne 8, 3) := by decide +kernel
theorem dX8_book_109 : decode cX8_book 109 = .ok (.bipush (-5), 2) := by decide +kernel
theorem dX8_book_111 : decode cX8_book 111 = .ok (.goto 4, 3) := by decide +kernel
theorem dX8_book_114 : decode cX8_book 114 = .ok (.iload_n 3, 1) := by decide +kernel
theorem dX8_book_115 : decode cX8_book 115 = .ok (.iastore, 1) := by decide +kernel
theorem dX8_book_116 : decode cX8_book 116 = .ok (.aload_n 0, 1) := by decide +kernel
theorem dX8_book_117 : decode cX8_book 117 = .ok (.getfield 11, 3) := by decide +kernel
theorem dX8_book_120 : decode cX8_book 120 = .ok (.sipush 345, 3) := by decide +kernel
theorem dX8_book_123 : decode cX8_book 123 = .ok (.iload 4, 2) := by decide +kernel
theorem dX8_book_125 : decode cX8_book 125 = .ok (.iconst 1, 1) := by decide +kernel
theorem dX8_book_126 : decode cX8_book 126 = .ok (.iadd, 1) := by decide +kernel
theorem dX8_book_127 : decode cX8_book 127 = .ok (.iastore, 1) := by decide +kernel
theorem dX8_book_128 : decode cX8_book 128 = .ok (.iload 4, 2) := by decide +kernel
theorem dX8_book_130 : decode cX8_book 130 = .ok (.iconst 1, 1) := by decide +kernel
theorem dX8_book_131 : decode cX8_book 131 = .ok (.iadd, 1) := by decide +kernel
theorem dX8_book_132 : decode cX8_book 132 = .ok (.ireturn, 1) := by decide +kernel
theorem dX8_looked_0 : decode cX8_looked 0 = .ok (.iconst 0, 1) := by decide +kernel
theorem dX8_looked_1 : decode cX8_looked 1 = .ok (.istore_n 1, 1) := by decide +kernel
theorem dX8_looked_2 : decode cX8_looked 2 = .ok (.iload_n 1, 1) := by decide +kernel
theorem dX8_looked_3 : decode cX8_looked 3 = .ok (.aload_n 0, 1) := by decide +kernel
theorem dX8_looked_4 : decode cX8_looked 4 = .ok (.getfield 11, 3) := by decide +kernel
theorem dX8_looked_7 : decode cX8_looked 7 = .ok (.sipush 345, 3) := by decide +kernel
theorem dX8_looked_10 : decode cX8_looked 10 = .ok (.iaload, 1) := by decide +kernel
theorem dX8_looked_11 : decode cX8_looked 11 = .ok (.if_icmp .ge 77, 3) := by decide +kernel
theorem dX8_looked_14 : decode cX8_looked 14 = .ok (.aload_n 0, 1) := by decide +kernel
theorem dX8_looked_15 : decode cX8_looked 15 = .ok (.getfield 11, 3) := by decide +kernel
theorem dX8_looked_18 : decode cX8_looked 18 = .ok (.sipush 321, 3) := by decide +kernel
theorem dX8_looked_21 : decode cX8_looked 21 = .ok (.iconst 3, 1) := by decide +kernel
theorem dX8_looked_22 : decode cX8_looked 22 = .ok (.iload_n 1, 1) := by decide +kernel
theorem dX8_looked_23 : decode cX8_looked 23 = .ok (.imul, 1) := by decide +kernel
theorem dX8_looked_24 : decode cX8_looked 24 = .ok (.iadd, 1) := by decide +kernel
theorem dX8_looked_25 : decode cX8_looked 25 = .ok (.iaload, 1) := by decide +kernel
theorem dX8_looked_26 : decode cX8_looked 26 = .ok (.istore_n 2, 1) := by decide +kernel
theorem dX8_looked_27 : decode cX8_looked 27 = .ok (.aload_n 0, 1) := by decide +kernel
theorem dX8_looked_28 : decode cX8_looked 28 = .ok (.iload_n 2, 1) := by decide +kernel
theorem dX8_looked_29 : decode cX8_looked 29 = .ok (.invokevirtual 65, 3) := by decide +kernel
theorem dX8_looked_32 : decode cX8_looked 32 = .ok (.ifCond .eq 48, 3) := by decide +kernel
theorem dX8_looked_35 : decode cX8_looked 35 = .ok (.aload_n 0, 1) := by decide +kernel
theorem dX8_looked_36 : decode cX8_looked 36 = .ok (.getfield 11, 3) := by decide +kernel
theorem dX8_looked_39 : decode cX8_looked 39 = .ok (.sipush 140, 3) := by decide +kernel
theorem dX8_looked_42 : decode cX8_looked 42 = .ok (.bipush 6, 2) := by decide +kernel
theorem dX8_looked_44 : decode cX8_looked 44 = .ok (.iload_n 2, 1) := by decide +kernel
theorem dX8_looked_45 : decode cX8_looked 45 = .ok (.imul, 1) := by decide +kernel
theorem dX8_looked_46 : decode cX8_looked 46 = .ok (.iadd, 1) := by decide +kernel
theorem dX8_looked_47 : decode cX8_looked 47 = .ok (.aload_n 0, 1) := by decide +kernel
theorem dX8_looked_48 : decode cX8_looked 48 = .ok (.getfield 11, 3) := by decide +kernel
theorem dX8_looked_51 : decode cX8_looked 51 = .ok (.sipush 321, 3) := by decide +kernel
theorem dX8_looked_54 : decode cX8_looked 54 = .ok (.iconst 3, 1) := by decide +kernel
theorem dX8_looked_55 : decode cX8_looked 55 = .ok (.iload_n 1, 1) := by decide +kernel
theorem dX8_looked_56 : decode cX8_looked 56 = .ok (.imul, 1) := by decide +kernel
theorem dX8_looked_57 : decode cX8_looked 57 = .ok (.iadd, 1) := by decide +kernel
theorem dX8_looked_58 : decode cX8_looked 58 = .ok (.iconst 1, 1) := by decide +kernel
theorem dX8_looked_59 : decode cX8_looked 59 = .ok (.iadd, 1) := by decide +kernel
theorem dX8_looked_60 : decode cX8_looked 60 = .ok (.iaload, 1) := by decide +kernel
theorem dX8_looked_61 : decode cX8_looked 61 = .ok (.iadd, 1) := by decide +kernel
theorem dX8_looked_62 : decode cX8_looked 62 = .ok (.iaload, 1) := by decide +kernel
theorem dX8_looked_63 : decode cX8_looked 63 = .ok (.aload_n 0, 1) := by decide +kernel
theorem dX8_looked_64 : decode cX8_looked 64 = .ok (.getfield 11, 3) := by decide +kernel
theorem dX8_looked_67 : decode cX8_looked 67 = .ok (.sipush 321, 3) := by decide +kernel
theorem dX8_looked_70 : decode cX8_looked 70 = .ok (.iconst 3, 1) := by decide +kernel
theorem dX8_looked_71 : decode cX8_looked 71 = .ok (.iload_n 1, 1) := by decide +kernel
theorem dX8_looked_72 : decode cX8_looked 72 = .ok (.imul, 1) := by decide +kernel
theorem dX8_looked_73 : decode cX8_looked 73 = .ok (.iadd, 1) := by decide +kernel
theorem dX8_looked_74 : decode cX8_looked 74 = .ok (.iconst 2, 1) := by decide +kernel
theorem dX8_looked_75 : decode cX8_looked 75 = .ok (.iadd, 1) := by decide +kernel
theorem dX8_looked_76 : decode cX8_looked 76 = .ok (.iaload, 1) := by decide +kernel
theorem dX8_looked_77 : decode cX8_looked 77 = .ok (.if_icmp .eq 5, 3) := by decide +kernel
theorem dX8_looked_80 : decode cX8_looked 80 = .ok (.iload_n 1, 1) := by decide +kernel
theorem dX8_looked_81 : decode cX8_looked 81 = .ok (.ireturn, 1) := by decide +kernel
theorem dX8_looked_82 : decode cX8_looked 82 = .ok (.iinc 1 1, 3) := by decide +kernel
theorem dX8_looked_85 : decode cX8_looked 85 = .ok (.goto (-83), 3) := by decide +kernel
theorem dX8_looked_88 : decode cX8_looked 88 = .ok (.bipush (-5), 2) := by decide +kernel
theorem dX8_looked_90 : decode cX8_looked 90 = .ok (.ireturn, 1) := by decide +kernel
theorem dX8_judge_0 : decode cX8_judge 0 = .ok (.iload_n 1, 1) := by decide +kernel
theorem dX8_judge_1 : decode cX8_judge 1 = .ok (.i2l, 1) := by decide +kernel
theorem dX8_judge_2 : decode cX8_judge 2 = .ok (.lconst 0, 1) := by decide +kernel
theorem dX8_judge_3 : decode cX8_judge 3 = .ok (.ldc2_w 263, 3) := by decide +kernel
theorem dX8_judge_6 : decode cX8_judge 6 = .ok (.invokestatic 57, 3) := by decide +kernel
theorem dX8_judge_9 : decode cX8_judge 9 = .ok (.ifCond .ne 5, 3) := by decide +kernel
theorem dX8_judge_12 : decode cX8_judge 12 = .ok (.iconst (-1), 1) := by decide +kernel
theorem dX8_judge_13 : decode cX8_judge 13 = .ok (.ireturn, 1) := by decide +kernel
theorem dX8_judge_14 : decode cX8_judge 14 = .ok (.aload_n 0, 1) := by decide +kernel
theorem dX8_judge_15 : decode cX8_judge 15 = .ok (.getfield 45, 3) := by decide +kernel
theorem dX8_judge_18 : decode cX8_judge 18 = .ok (.iload_n 1, 1) := by decide +kernel
theorem dX8_judge_19 : decode cX8_judge 19 = .ok (.iaload, 1) := by decide +kernel
theorem dX8_judge_20 : decode cX8_judge 20 = .ok (.iconst (-1), 1) := by decide +kernel
theorem dX8_judge_21 : decode cX8_judge 21 = .ok (.if_icmp .eq 16, 3) := by decide +kernel
theorem dX8_judge_24 : decode cX8_judge 24 = .ok (.aload_n 0, 1) := by decide +kernel
theorem dX8_judge_25 : decode cX8_judge 25 = .ok (.getfield 45, 3) := by decide +kernel
theorem dX8_judge_28 : decode cX8_judge 28 = .ok (.iload_n 1, 1) := by decide +kernel
theorem dX8_judge_29 : decode cX8_judge 29 = .ok (.iaload, 1) := by decide +kernel
theorem dX8_judge_30 : decode cX8_judge 30 = .ok (.iconst 4, 1) := by decide +kernel
theorem dX8_judge_31 : decode cX8_judge 31 = .ok (.if_icmp .eq 6, 3) := by decide +kernel
theorem dX8_judge_34 : decode cX8_judge 34 = .ok (.bipush (-12), 2) := by decide +kernel
theorem dX8_judge_36 : decode cX8_judge 36 = .ok (.ireturn, 1) := by decide +kernel
theorem dX8_judge_37 : decode cX8_judge 37 = .ok (.iconst 0, 1) := by decide +kernel
theorem dX8_judge_38 : decode cX8_judge 38 = .ok (.istore_n 3, 1) := by decide +kernel
theorem dX8_judge_39 : decode cX8_judge 39 = .ok (.iload_n 3, 1) := by decide +kernel
theorem dX8_judge_40 : decode cX8_judge 40 = .ok (.aload_n 0, 1) := by decide +kernel
theorem dX8_judge_41 : decode cX8_judge 41 = .ok (.getfield 11, 3) := by decide +kernel
theorem dX8_judge_44 : decode cX8_judge 44 = .ok (.iconst 0, 1) := by decide +kernel
theorem dX8_judge_45 : decode cX8_judge 45 = .ok (.iaload, 1) := by decide +kernel
theorem dX8_judge_46 : decode cX8_judge 46 = .ok (.if_icmp .ge 78, 3) := by decide +kernel
theorem dX8_judge_49 : decode cX8_judge 49 = .ok (.aload_n 0, 1) := by decide +kernel
theorem dX8_judge_50 : decode cX8_judge 50 = .ok (.getfield 45, 3) := by decide +kernel
theorem dX8_judge_53 : decode cX8_judge 53 = .ok (.iload_n 1, 1) := by decide +kernel
theorem dX8_judge_54 : decode cX8_judge 54 = .ok (.iaload, 1) := by decide +kernel
theorem dX8_judge_55 : decode cX8_judge 55 = .ok (.iconst (-1), 1) := by decide +kernel
theorem dX8_judge_56 : decode cX8_judge 56 = .ok (.if_icmp .eq 19, 3) := by decide +kernel
theorem dX8_judge_59 : decode cX8_judge 59 = .ok (.iload_n 2, 1) := by decide +kernel
theorem dX8_judge_60 : decode cX8_judge 60 = .ok (.ifCond .lt 15, 3) := by decide +kernel
theorem dX8_judge_63 : decode cX8_judge 63 = .ok (.iload_n 3, 1) := by decide +kernel
theorem dX8_judge_64 : decode cX8_judge 64 = .ok (.aload_n 0, 1) := by decide +kernel
theorem dX8_judge_65 : decode cX8_judge 65 = .ok (.getfield 48, 3) := by decide +kernel
theorem dX8_judge_68 : decode cX8_judge 68 = .ok (.iload_n 1, 1) := by decide +kernel
theorem dX8_judge_69 : decode cX8_judge 69 = .ok (.iaload, 1) := by decide +kernel
theorem dX8_judge_70 : decode cX8_judge 70 = .ok (.iload_n 2, 1) := by decide +kernel
theorem dX8_judge_71 : decode cX8_judge 71 = .ok (.isub, 1) := by decide +kernel
theorem dX8_judge_72 : decode cX8_judge 72 = .ok (.if_icmp .lt 8, 3) := by decide +kernel
theorem dX8_judge_75 : decode cX8_judge 75 = .ok (.bipush 100, 2) := by decide +kernel
theorem dX8_judge_77 : decode cX8_judge 77 = .ok (.iload_n 3, 1) := by decide +kernel
theorem dX8_judge_78 : decode cX8_judge 78 = .ok (.iadd, 1) := by decide +kernel
theorem dX8_judge_79 : decode cX8_judge 79 = .ok (.ireturn, 1) := by decide +kernel
theorem dX8_judge_80 : decode cX8_judge 80 = .ok (.aload_n 0, 1) := by decide +kernel
theorem dX8_judge_81 : decode cX8_judge 81 = .ok (.getfield 51, 3) := by decide +kernel
theorem dX8_judge_84 : decode cX8_judge 84 = .ok (.bipush 60, 2) := by decide +kernel
theorem dX8_judge_86 : decode cX8_judge 86 = .ok (.iload_n 1, 1) := by decide +kernel
theorem dX8_judge_87 : decode cX8_judge 87 = .ok (.imul, 1) := by decide +kernel
theorem dX8_judge_88 : decode cX8_judge 88 = .ok (.iload_n 2, 1) := by decide +kernel
theorem dX8_judge_89 : decode cX8_judge 89 = .ok (.iadd, 1) := by decide +kernel
theorem dX8_judge_90 : decode cX8_judge 90 = .ok (.iload_n 3, 1) := by decide +kernel
theorem dX8_judge_91 : decode cX8_judge 91 = .ok (.iadd, 1) := by decide +kernel
theorem dX8_judge_92 : decode cX8_judge 92 = .ok (.laload, 1) := by decide +kernel
theorem dX8_judge_93 : decode cX8_judge 93 = .ok (.aload_n 0, 1) := by decide +kernel
theorem dX8_judge_94 : decode cX8_judge 94 = .ok (.getfield 11, 3) := by decide +kernel
theorem dX8_judge_97 : decode cX8_judge 97 = .ok (.bipush 12, 2) := by decide +kernel
theorem dX8_judge_99 : decode cX8_judge 99 = .ok (.iaload, 1) := by decide +kernel
theorem dX8_judge_100 : decode cX8_judge 100 = .ok (.iload_n 3, 1) := by decide +kernel
theorem dX8_judge_101 : decode cX8_judge 101 = .ok (.invokestatic 61, 3) := by decide +kernel
theorem dX8_judge_104 : decode cX8_judge 104 = .ok (.ifCond .eq 7, 3) := by decide +kernel
theorem dX8_judge_107 : decode cX8_judge 107 = .ok (.lconst 1, 1) := by decide +kernel
theorem dX8_judge_108 : decode cX8_judge 108 = .ok (.goto 4, 3) := by decide +kernel
theorem dX8_judge_111 : decode cX8_judge 111 = .ok (.lconst 0, 1) := by decide +kernel
theorem dX8_judge_112 : decode cX8_judge 112 = .ok (.lcmp, 1) := by decide +kernel
theorem dX8_judge_113 : decode cX8_judge 113 = .ok (.ifCond .eq 5, 3) := by decide +kernel
theorem dX8_judge_116 : decode cX8_judge 116 = .ok (.iload_n 3, 1) := by decide +kernel
theorem dX8_judge_117 : decode cX8_judge 117 = .ok (.ireturn, 1) := by decide +kernel
theorem dX8_judge_118 : decode cX8_judge 118 = .ok (.iinc 3 1, 3) := by decide +kernel
theorem dX8_judge_121 : decode cX8_judge 121 = .ok (.goto (-82), 3) := by decide +kernel
theorem dX8_judge_124 : decode cX8_judge 124 = .ok (.bipush (-5), 2) := by decide +kernel
theorem dX8_judge_126 : decode cX8_judge 126 = .ok (.ireturn, 1) := by decide +kernel
theorem dX8_image_0 : decode cX8_image 0 = .ok (.aload_n 0, 1) := by decide +kernel
theorem dX8_image_1 : decode cX8_image 1 = .ok (.getfield 11, 3) := by decide +kernel
theorem dX8_image_4 : decode cX8_image 4 = .ok (.aload_n 0, 1) := by decide +kernel
theorem dX8_image_5 : decode cX8_image 5 = .ok (.getfield 18, 3) := by decide +kernel
theorem dX8_image_8 : decode cX8_image 8 = .ok (.invokestatic 224, 3) := by decide +kernel
theorem dX8_image_11 : decode cX8_image 11 = .ok (.aload_n 0, 1) := by decide +kernel
theorem dX8_image_12 : decode cX8_image 12 = .ok (.iconst 1, 1) := by decide +kernel
theorem dX8_image_13 : decode cX8_image 13 = .ok (.putfield 265, 3) := by decide +kernel
theorem dX8_image_16 : decode cX8_image 16 = .ok (.aload_n 0, 1) := by decide +kernel
theorem dX8_image_17 : decode cX8_image 17 = .ok (.invokevirtual 215, 3) := by decide +kernel
theorem dX8_image_20 : decode cX8_image 20 = .ok (.ireturn, 1) := by decide +kernel
theorem dX8_undo_0 : decode cX8_undo 0 = .ok (.aload_n 0, 1) := by decide +kernel
theorem dX8_undo_1 : decode cX8_undo 1 = .ok (.getfield 265, 3) := by decide +kernel
theorem dX8_undo_4 : decode cX8_undo 4 = .ok (.ifCond .ne 6, 3) := by decide +kernel
theorem dX8_undo_7 : decode cX8_undo 7 = .ok (.bipush (-3), 2) := by decide +kernel
theorem dX8_undo_9 : decode cX8_undo 9 = .ok (.ireturn, 1) := by decide +kernel
theorem dX8_undo_10 : decode cX8_undo 10 = .ok (.aload_n 0, 1) := by decide +kernel
theorem dX8_undo_11 : decode cX8_undo 11 = .ok (.getfield 18, 3) := by decide +kernel
theorem dX8_undo_14 : decode cX8_undo 14 = .ok (.aload_n 0, 1) := by decide +kernel
theorem dX8_undo_15 : decode cX8_undo 15 = .ok (.getfield 11, 3) := by decide +kernel
theorem dX8_undo_18 : decode cX8_undo 18 = .ok (.invokestatic 224, 3) := by decide +kernel
theorem dX8_undo_21 : decode cX8_undo 21 = .ok (.aload_n 0, 1) := by decide +kernel
theorem dX8_undo_22 : decode cX8_undo 22 = .ok (.invokevirtual 215, 3) := by decide +kernel
theorem dX8_undo_25 : decode cX8_undo 25 = .ok (.ireturn, 1) := by decide +kernel
theorem dX8_taken_0 : decode cX8_taken 0 = .ok (.iload_n 2, 1) := by decide +kernel
theorem dX8_taken_1 : decode cX8_taken 1 = .ok (.i2l, 1) := by decide +kernel
theorem dX8_taken_2 : decode cX8_taken 2 = .ok (.lconst 0, 1) := by decide +kernel
theorem dX8_taken_3 : decode cX8_taken 3 = .ok (.ldc2_w 69, 3) := by decide +kernel
theorem dX8_taken_6 : decode cX8_taken 6 = .ok (.invokestatic 57, 3) := by decide +kernel
theorem dX8_taken_9 : decode cX8_taken 9 = .ok (.ifCond .ne 6, 3) := by decide +kernel
theorem dX8_taken_12 : decode cX8_taken 12 = .ok (.bipush (-2), 2) := by decide +kernel
theorem dX8_taken_14 : decode cX8_taken 14 = .ok (.ireturn, 1) := by decide +kernel
theorem dX8_taken_15 : decode cX8_taken 15 = .ok (.aload_n 0, 1) := by decide +kernel
theorem dX8_taken_16 : decode cX8_taken 16 = .ok (.iload_n 1, 1) := by decide +kernel
theorem dX8_taken_17 : decode cX8_taken 17 = .ok (.invokevirtual 65, 3) := by decide +kernel
theorem dX8_taken_20 : decode cX8_taken 20 = .ok (.ifCond .ne 6, 3) := by decide +kernel
theorem dX8_taken_23 : decode cX8_taken 23 = .ok (.bipush (-11), 2) := by decide +kernel
theorem dX8_taken_25 : decode cX8_taken 25 = .ok (.ireturn, 1) := by decide +kernel
theorem dX8_taken_26 : decode cX8_taken 26 = .ok (.aload_n 0, 1) := by decide +kernel
theorem dX8_taken_27 : decode cX8_taken 27 = .ok (.getfield 11, 3) := by decide +kernel
theorem dX8_taken_30 : decode cX8_taken 30 = .ok (.bipush 20, 2) := by decide +kernel
theorem dX8_taken_32 : decode cX8_taken 32 = .ok (.iload_n 1, 1) := by decide +kernel
theorem dX8_taken_33 : decode cX8_taken 33 = .ok (.iadd, 1) := by decide +kernel
theorem dX8_taken_34 : decode cX8_taken 34 = .ok (.iaload, 1) := by decide +kernel
theorem dX8_taken_35 : decode cX8_taken 35 = .ok (.istore_n 3, 1) := by decide +kernel
theorem dX8_taken_36 : decode cX8_taken 36 = .ok (.iload_n 2, 1) := by decide +kernel
theorem dX8_taken_37 : decode cX8_taken 37 = .ok (.ifCond .eq 39, 3) := by decide +kernel
theorem dX8_taken_40 : decode cX8_taken 40 = .ok (.iload_n 2, 1) := by decide +kernel
theorem dX8_taken_41 : decode cX8_taken 41 = .ok (.iload_n 3, 1) := by decide +kernel
theorem dX8_taken_42 : decode cX8_taken 42 = .ok (.if_icmp .eq 34, 3) := by decide +kernel
theorem dX8_taken_45 : decode cX8_taken 45 = .ok (.iload_n 2, 1) := by decide +kernel
theorem dX8_taken_46 : decode cX8_taken 46 = .ok (.iconst 3, 1) := by decide +kernel
theorem dX8_taken_47 : decode cX8_taken 47 = .ok (.if_icmp .ne 8, 3) := by decide +kernel
theorem dX8_taken_50 : decode cX8_taken 50 = .ok (.iload_n 3, 1) := by decide +kernel
theorem dX8_taken_51 : decode cX8_taken 51 = .ok (.iconst 4, 1) := by decide +kernel
theorem dX8_taken_52 : decode cX8_taken 52 = .ok (.if_icmp .eq 24, 3) := by decide +kernel
theorem dX8_taken_55 : decode cX8_taken 55 = .ok (.iload_n 2, 1) := by decide +kernel
theorem dX8_taken_56 : decode cX8_taken 56 = .ok (.iconst 2, 1) := by decide +kernel
theorem dX8_taken_57 : decode cX8_taken 57 = .ok (.if_icmp .ne 8, 3) := by decide +kernel
theorem dX8_taken_60 : decode cX8_taken 60 = .ok (.iload_n 3, 1) := by decide +kernel
theorem dX8_taken_61 : decode cX8_taken 61 = .ok (.iconst 5, 1) := by decide +kernel
theorem dX8_taken_62 : decode cX8_taken 62 = .ok (.if_icmp .eq 14, 3) := by decide +kernel
theorem dX8_taken_65 : decode cX8_taken 65 = .ok (.iload_n 2, 1) := by decide +kernel
theorem dX8_taken_66 : decode cX8_taken 66 = .ok (.iconst 1, 1) := by decide +kernel
theorem dX8_taken_67 : decode cX8_taken 67 = .ok (.if_icmp .ne 13, 3) := by decide +kernel
theorem dX8_taken_70 : decode cX8_taken 70 = .ok (.iload_n 3, 1) := by decide +kernel
theorem dX8_taken_71 : decode cX8_taken 71 = .ok (.bipush 6, 2) := by decide +kernel
theorem dX8_taken_73 : decode cX8_taken 73 = .ok (.if_icmp .ne 7, 3) := by decide +kernel
theorem dX8_taken_76 : decode cX8_taken 76 = .ok (.iconst 1, 1) := by decide +kernel
theorem dX8_taken_77 : decode cX8_taken 77 = .ok (.goto 4, 3) := by decide +kernel
theorem dX8_taken_80 : decode cX8_taken 80 = .ok (.iconst 0, 1) := by decide +kernel
theorem dX8_taken_81 : decode cX8_taken 81 = .ok (.istore 4, 2) := by decide +kernel
theorem dX8_taken_83 : decode cX8_taken 83 = .ok (.iload 4, 2) := by decide +kernel
theorem dX8_taken_85 : decode cX8_taken 85 = .ok (.ifCond .eq 7, 3) := by decide +kernel
theorem dX8_taken_88 : decode cX8_taken 88 = .ok (.iload_n 3, 1) := by decide +kernel
theorem dX8_taken_89 : decode cX8_taken 89 = .ok (.goto 5, 3) := by decide +kernel
theorem dX8_taken_92 : decode cX8_taken 92 = .ok (.bipush (-12), 2) := by decide +kernel
theorem dX8_taken_94 : decode cX8_taken 94 = .ok (.ireturn, 1) := by decide +kernel
theorem dX8_count_0 : decode cX8_count 0 = .ok (.iload_n 1, 1) := by decide +kernel
theorem dX8_count_1 : decode cX8_count 1 = .ok (.tableswitch 74 0 4 #[35, 42, 51, 60, 69], 35) := by decide +kernel
theorem dX8_count_36 : decode cX8_count 36 = .ok (.aload_n 0, 1) := by decide +kernel
theorem dX8_count_37 : decode cX8_count 37 = .ok (.getfield 11, 3) := by decide +kernel
theorem dX8_count_40 : decode cX8_count 40 = .ok (.iconst 0, 1) := by decide +kernel
theorem dX8_count_41 : decode cX8_count 41 = .ok (.iaload, 1) := by decide +kernel
theorem dX8_count_42 : decode cX8_count 42 = .ok (.ireturn, 1) := by decide +kernel
theorem dX8_count_43 : decode cX8_count 43 = .ok (.aload_n 0, 1) := by decide +kernel
theorem dX8_count_44 : decode cX8_count 44 = .ok (.getfield 11, 3) := by decide +kernel
theorem dX8_count_47 : decode cX8_count 47 = .ok (.sipush 299, 3) := by decide +kernel
theorem dX8_count_50 : decode cX8_count 50 = .ok (.iaload, 1) := by decide +kernel
theorem dX8_count_51 : decode cX8_count 51 = .ok (.ireturn, 1) := by decide +kernel
theorem dX8_count_52 : decode cX8_count 52 = .ok (.aload_n 0, 1) := by decide +kernel
theorem dX8_count_53 : decode cX8_count 53 = .ok (.getfield 11, 3) := by decide +kernel
theorem dX8_count_56 : decode cX8_count 56 = .ok (.sipush 320, 3) := by decide +kernel
theorem dX8_count_59 : decode cX8_count 59 = .ok (.iaload, 1) := by decide +kernel
theorem dX8_count_60 : decode cX8_count 60 = .ok (.ireturn, 1) := by decide +kernel
theorem dX8_count_61 : decode cX8_count 61 = .ok (.aload_n 0, 1) := by decide +kernel
theorem dX8_count_62 : decode cX8_count 62 = .ok (.getfield 11, 3) := by decide +kernel
theorem dX8_count_65 : decode cX8_count 65 = .ok (.sipush 345, 3) := by decide +kernel
theorem dX8_count_68 : decode cX8_count 68 = .ok (.iaload, 1) := by decide +kernel
theorem dX8_count_69 : decode cX8_count 69 = .ok (.ireturn, 1) := by decide +kernel
theorem dX8_count_70 : decode cX8_count 70 = .ok (.aload_n 0, 1) := by decide +kernel
theorem dX8_count_71 : decode cX8_count 71 = .ok (.getfield 139, 3) := by decide +kernel
theorem dX8_count_74 : decode cX8_count 74 = .ok (.ireturn, 1) := by decide +kernel
theorem dX8_count_75 : decode cX8_count 75 = .ok (.bipush (-2), 2) := by decide +kernel
theorem dX8_count_77 : decode cX8_count 77 = .ok (.ireturn, 1) := by decide +kernel
theorem dX8_tape_0 : decode cX8_tape 0 = .ok (.iload_n 1, 1) := by decide +kernel
theorem dX8_tape_1 : decode cX8_tape 1 = .ok (.i2l, 1) := by decide +kernel
theorem dX8_tape_2 : decode cX8_tape 2 = .ok (.lconst 0, 1) := by decide +kernel
theorem dX8_tape_3 : decode cX8_tape 3 = .ok (.ldc2_w 263, 3) := by decide +kernel
theorem dX8_tape_6 : decode cX8_tape 6 = .ok (.invokestatic 57, 3) := by decide +kernel
theorem dX8_tape_9 : decode cX8_tape 9 = .ok (.ifCond .ne 5, 3) := by decide +kernel
theorem dX8_tape_12 : decode cX8_tape 12 = .ok (.iconst (-1), 1) := by decide +kernel
theorem dX8_tape_13 : decode cX8_tape 13 = .ok (.ireturn, 1) := by decide +kernel
theorem dX8_tape_14 : decode cX8_tape 14 = .ok (.iload_n 2, 1) := by decide +kernel
theorem dX8_tape_15 : decode cX8_tape 15 = .ok (.i2l, 1) := by decide +kernel
theorem dX8_tape_16 : decode cX8_tape 16 = .ok (.ldc2_w 268, 3) := by decide +kernel
theorem dX8_tape_19 : decode cX8_tape 19 = .ok (.ldc2_w 241, 3) := by decide +kernel
theorem dX8_tape_22 : decode cX8_tape 22 = .ok (.invokestatic 57, 3) := by decide +kernel
theorem dX8_tape_25 : decode cX8_tape 25 = .ok (.ifCond .eq 14, 3) := by decide +kernel
theorem dX8_tape_28 : decode cX8_tape 28 = .ok (.iload_n 2, 1) := by decide +kernel
theorem dX8_tape_29 : decode cX8_tape 29 = .ok (.iconst (-1), 1) := by decide +kernel
theorem dX8_tape_30 : decode cX8_tape 30 = .ok (.if_icmp .eq 12, 3) := by decide +kernel
theorem dX8_tape_33 : decode cX8_tape 33 = .ok (.iload_n 3, 1) := by decide +kernel
theorem dX8_tape_34 : decode cX8_tape 34 = .ok (.bipush 60, 2) := by decide +kernel
theorem dX8_tape_36 : decode cX8_tape 36 = .ok (.if_icmp .le 6, 3) := by decide +kernel
theorem dX8_tape_39 : decode cX8_tape 39 = .ok (.bipush (-2), 2) := by decide +kernel
theorem dX8_tape_41 : decode cX8_tape 41 = .ok (.ireturn, 1) := by decide +kernel
theorem dX8_tape_42 : decode cX8_tape 42 = .ok (.iload_n 2, 1) := by decide +kernel
theorem dX8_tape_43 : decode cX8_tape 43 = .ok (.iconst (-1), 1) := by decide +kernel
theorem dX8_tape_44 : decode cX8_tape 44 = .ok (.if_icmp .eq 10, 3) := by decide +kernel
theorem dX8_tape_47 : decode cX8_tape 47 = .ok (.iload_n 3, 1) := by decide +kernel
theorem dX8_tape_48 : decode cX8_tape 48 = .ok (.ifCond .ge 6, 3) := by decide +kernel
theorem dX8_tape_51 : decode cX8_tape 51 = .ok (.bipush (-14), 2) := by decide +kernel
theorem dX8_tape_53 : decode cX8_tape 53 = .ok (.ireturn, 1) := by decide +kernel
theorem dX8_tape_54 : decode cX8_tape 54 = .ok (.aload_n 0, 1) := by decide +kernel
theorem dX8_tape_55 : decode cX8_tape 55 = .ok (.getfield 45, 3) := by decide +kernel
theorem dX8_tape_58 : decode cX8_tape 58 = .ok (.iload_n 1, 1) := by decide +kernel
theorem dX8_tape_59 : decode cX8_tape 59 = .ok (.iload_n 2, 1) := by decide +kernel
theorem dX8_tape_60 : decode cX8_tape 60 = .ok (.iastore, 1) := by decide +kernel
theorem dX8_tape_61 : decode cX8_tape 61 = .ok (.aload_n 0, 1) := by decide +kernel
theorem dX8_tape_62 : decode cX8_tape 62 = .ok (.getfield 48, 3) := by decide +kernel
theorem dX8_tape_65 : decode cX8_tape 65 = .ok (.iload_n 1, 1) := by decide +kernel
theorem dX8_tape_66 : decode cX8_tape 66 = .ok (.iload_n 2, 1) := by decide +kernel
theorem dX8_tape_67 : decode cX8_tape 67 = .ok (.iconst (-1), 1) := by decide +kernel
theorem dX8_tape_68 : decode cX8_tape 68 = .ok (.if_icmp .ne 7, 3) := by decide +kernel
theorem dX8_tape_71 : decode cX8_tape 71 = .ok (.iconst 0, 1) := by decide +kernel
theorem dX8_tape_72 : decode cX8_tape 72 = .ok (.goto 4, 3) := by decide +kernel
theorem dX8_tape_75 : decode cX8_tape 75 = .ok (.iload_n 3, 1) := by decide +kernel
theorem dX8_tape_76 : decode cX8_tape 76 = .ok (.iastore, 1) := by decide +kernel
theorem dX8_tape_77 : decode cX8_tape 77 = .ok (.iconst 0, 1) := by decide +kernel
theorem dX8_tape_78 : decode cX8_tape 78 = .ok (.istore 4, 2) := by decide +kernel
theorem dX8_tape_80 : decode cX8_tape 80 = .ok (.iload 4, 2) := by decide +kernel
theorem dX8_tape_82 : decode cX8_tape 82 = .ok (.bipush 60, 2) := by decide +kernel
theorem dX8_tape_84 : decode cX8_tape 84 = .ok (.if_icmp .ge 22, 3) := by decide +kernel
theorem dX8_tape_87 : decode cX8_tape 87 = .ok (.aload_n 0, 1) := by decide +kernel
theorem dX8_tape_88 : decode cX8_tape 88 = .ok (.getfield 51, 3) := by decide +kernel
theorem dX8_tape_91 : decode cX8_tape 91 = .ok (.bipush 60, 2) := by decide +kernel
theorem dX8_tape_93 : decode cX8_tape 93 = .ok (.iload_n 1, 1) := by decide +kernel
theorem dX8_tape_94 : decode cX8_tape 94 = .ok (.imul, 1) := by decide +kernel
theorem dX8_tape_95 : decode cX8_tape 95 = .ok (.iload 4, 2) := by decide +kernel
theorem dX8_tape_97 : decode cX8_tape 97 = .ok (.iadd, 1) := by decide +kernel
theorem dX8_tape_98 : decode cX8_tape 98 = .ok (.lconst 0, 1) := by decide +kernel
theorem dX8_tape_99 : decode cX8_tape 99 = .ok (.lastore, 1) := by decide +kernel
theorem dX8_tape_100 : decode cX8_tape 100 = .ok (.iinc 4 1, 3) := by decide +kernel
theorem dX8_tape_103 : decode cX8_tape 103 = .ok (.goto (-23), 3) := by decide +kernel
theorem dX8_tape_106 : decode cX8_tape 106 = .ok (.iconst 1, 1) := by decide +kernel
theorem dX8_tape_107 : decode cX8_tape 107 = .ok (.ireturn, 1) := by decide +kernel
theorem dX8_lowestBits_0 : decode cX8_lowestBits 0 = .ok (.iload_n 0, 1) := by decide +kernel
theorem dX8_lowestBits_1 : decode cX8_lowestBits 1 = .ok (.tableswitch 47 0 3 #[31, 36, 41, 45], 31) := by decide +kernel
theorem dX8_lowestBits_32 : decode cX8_lowestBits 32 = .ok (.lload_n 1, 1) := by decide +kernel
theorem dX8_lowestBits_33 : decode cX8_lowestBits 33 = .ok (.l2i, 1) := by decide +kernel
theorem dX8_lowestBits_34 : decode cX8_lowestBits 34 = .ok (.i2b, 1) := by decide +kernel
theorem dX8_lowestBits_35 : decode cX8_lowestBits 35 = .ok (.i2l, 1) := by decide +kernel
theorem dX8_lowestBits_36 : decode cX8_lowestBits 36 = .ok (.lreturn, 1) := by decide +kernel
theorem dX8_lowestBits_37 : decode cX8_lowestBits 37 = .ok (.lload_n 1, 1) := by decide +kernel
theorem dX8_lowestBits_38 : decode cX8_lowestBits 38 = .ok (.l2i, 1) := by decide +kernel
theorem dX8_lowestBits_39 : decode cX8_lowestBits 39 = .ok (.i2s, 1) := by decide +kernel
theorem dX8_lowestBits_40 : decode cX8_lowestBits 40 = .ok (.i2l, 1) := by decide +kernel
theorem dX8_lowestBits_41 : decode cX8_lowestBits 41 = .ok (.lreturn, 1) := by decide +kernel
theorem dX8_lowestBits_42 : decode cX8_lowestBits 42 = .ok (.lload_n 1, 1) := by decide +kernel
theorem dX8_lowestBits_43 : decode cX8_lowestBits 43 = .ok (.l2i, 1) := by decide +kernel
theorem dX8_lowestBits_44 : decode cX8_lowestBits 44 = .ok (.i2l, 1) := by decide +kernel
theorem dX8_lowestBits_45 : decode cX8_lowestBits 45 = .ok (.lreturn, 1) := by decide +kernel
theorem dX8_lowestBits_46 : decode cX8_lowestBits 46 = .ok (.lload_n 1, 1) := by decide +kernel
theorem dX8_lowestBits_47 : decode cX8_lowestBits 47 = .ok (.lreturn, 1) := by decide +kernel
theorem dX8_lowestBits_48 : decode cX8_lowestBits 48 = .ok (.lload_n 1, 1) := by decide +kernel
theorem dX8_lowestBits_49 : decode cX8_lowestBits 49 = .ok (.lconst 0, 1) := by decide +kernel
theorem dX8_lowestBits_50 : decode cX8_lowestBits 50 = .ok (.lcmp, 1) := by decide +kernel
theorem dX8_lowestBits_51 : decode cX8_lowestBits 51 = .ok (.ifCond .ne 7, 3) := by decide +kernel
theorem dX8_lowestBits_54 : decode cX8_lowestBits 54 = .ok (.lconst 0, 1) := by decide +kernel
theorem dX8_lowestBits_55 : decode cX8_lowestBits 55 = .ok (.goto 4, 3) := by decide +kernel
theorem dX8_lowestBits_58 : decode cX8_lowestBits 58 = .ok (.lconst 1, 1) := by decide +kernel
theorem dX8_lowestBits_59 : decode cX8_lowestBits 59 = .ok (.lreturn, 1) := by decide +kernel
theorem dX8_item_0 : decode cX8_item 0 = .ok (.iload_n 1, 1) := by decide +kernel
theorem dX8_item_1 : decode cX8_item 1 = .ok (.i2l, 1) := by decide +kernel
theorem dX8_item_2 : decode cX8_item 2 = .ok (.lconst 0, 1) := by decide +kernel
theorem dX8_item_3 : decode cX8_item 3 = .ok (.ldc2_w 263, 3) := by decide +kernel
theorem dX8_item_6 : decode cX8_item 6 = .ok (.invokestatic 57, 3) := by decide +kernel
theorem dX8_item_9 : decode cX8_item 9 = .ok (.ifCond .ne 5, 3) := by decide +kernel
theorem dX8_item_12 : decode cX8_item 12 = .ok (.iconst (-1), 1) := by decide +kernel
theorem dX8_item_13 : decode cX8_item 13 = .ok (.ireturn, 1) := by decide +kernel
theorem dX8_item_14 : decode cX8_item 14 = .ok (.aload_n 0, 1) := by decide +kernel
theorem dX8_item_15 : decode cX8_item 15 = .ok (.getfield 45, 3) := by decide +kernel
theorem dX8_item_18 : decode cX8_item 18 = .ok (.iload_n 1, 1) := by decide +kernel
theorem dX8_item_19 : decode cX8_item 19 = .ok (.iaload, 1) := by decide +kernel
theorem dX8_item_20 : decode cX8_item 20 = .ok (.iconst (-1), 1) := by decide +kernel
theorem dX8_item_21 : decode cX8_item 21 = .ok (.if_icmp .ne 6, 3) := by decide +kernel
theorem dX8_item_24 : decode cX8_item 24 = .ok (.bipush (-11), 2) := by decide +kernel
theorem dX8_item_26 : decode cX8_item 26 = .ok (.ireturn, 1) := by decide +kernel
theorem dX8_item_27 : decode cX8_item 27 = .ok (.iload_n 2, 1) := by decide +kernel
theorem dX8_item_28 : decode cX8_item 28 = .ok (.i2l, 1) := by decide +kernel
theorem dX8_item_29 : decode cX8_item 29 = .ok (.lconst 0, 1) := by decide +kernel
theorem dX8_item_30 : decode cX8_item 30 = .ok (.aload_n 0, 1) := by decide +kernel
theorem dX8_item_31 : decode cX8_item 31 = .ok (.getfield 48, 3) := by decide +kernel
theorem dX8_item_34 : decode cX8_item 34 = .ok (.iload_n 1, 1) := by decide +kernel
theorem dX8_item_35 : decode cX8_item 35 = .ok (.iaload, 1) := by decide +kernel
theorem dX8_item_36 : decode cX8_item 36 = .ok (.iconst 1, 1) := by decide +kernel
theorem dX8_item_37 : decode cX8_item 37 = .ok (.isub, 1) := by decide +kernel
theorem dX8_item_38 : decode cX8_item 38 = .ok (.i2l, 1) := by decide +kernel
theorem dX8_item_39 : decode cX8_item 39 = .ok (.invokestatic 57, 3) := by decide +kernel
theorem dX8_item_42 : decode cX8_item 42 = .ok (.ifCond .ne 6, 3) := by decide +kernel
theorem dX8_item_45 : decode cX8_item 45 = .ok (.bipush (-13), 2) := by decide +kernel
theorem dX8_item_47 : decode cX8_item 47 = .ok (.ireturn, 1) := by decide +kernel
theorem dX8_item_48 : decode cX8_item 48 = .ok (.aload_n 0, 1) := by decide +kernel
theorem dX8_item_49 : decode cX8_item 49 = .ok (.getfield 51, 3) := by decide +kernel
theorem dX8_item_52 : decode cX8_item 52 = .ok (.bipush 60, 2) := by decide +kernel
theorem dX8_item_54 : decode cX8_item 54 = .ok (.iload_n 1, 1) := by decide +kernel
theorem dX8_item_55 : decode cX8_item 55 = .ok (.imul, 1) := by decide +kernel
theorem dX8_item_56 : decode cX8_item 56 = .ok (.iload_n 2, 1) := by decide +kernel
theorem dX8_item_57 : decode cX8_item 57 = .ok (.iadd, 1) := by decide +kernel
theorem dX8_item_58 : decode cX8_item 58 = .ok (.aload_n 0, 1) := by decide +kernel
theorem dX8_item_59 : decode cX8_item 59 = .ok (.getfield 45, 3) := by decide +kernel
theorem dX8_item_62 : decode cX8_item 62 = .ok (.iload_n 1, 1) := by decide +kernel
theorem dX8_item_63 : decode cX8_item 63 = .ok (.iaload, 1) := by decide +kernel
theorem dX8_item_64 : decode cX8_item 64 = .ok (.lload_n 3, 1) := by decide +kernel
theorem dX8_item_65 : decode cX8_item 65 = .ok (.invokestatic 270, 3) := by decide +kernel
theorem dX8_item_68 : decode cX8_item 68 = .ok (.lastore, 1) := by decide +kernel
theorem dX8_item_69 : decode cX8_item 69 = .ok (.iconst 1, 1) := by decide +kernel
theorem dX8_item_70 : decode cX8_item 70 = .ok (.ireturn, 1) := by decide +kernel
theorem dX8_read_0 : decode cX8_read 0 = .ok (.iload_n 1, 1) := by decide +kernel
theorem dX8_read_1 : decode cX8_read 1 = .ok (.i2l, 1) := by decide +kernel
theorem dX8_read_2 : decode cX8_read 2 = .ok (.lconst 0, 1) := by decide +kernel
theorem dX8_read_3 : decode cX8_read 3 = .ok (.ldc2_w 263, 3) := by decide +kernel
theorem dX8_read_6 : decode cX8_read 6 = .ok (.invokestatic 57, 3) := by decide +kernel
theorem dX8_read_9 : decode cX8_read 9 = .ok (.ifCond .eq 35, 3) := by decide +kernel
theorem dX8_read_12 : decode cX8_read 12 = .ok (.iload_n 2, 1) := by decide +kernel
theorem dX8_read_13 : decode cX8_read 13 = .ok (.i2l, 1) := by decide +kernel
theorem dX8_read_14 : decode cX8_read 14 = .ok (.lconst 0, 1) := by decide +kernel
theorem dX8_read_15 : decode cX8_read 15 = .ok (.aload_n 0, 1) := by decide +kernel
theorem dX8_read_16 : decode cX8_read 16 = .ok (.getfield 48, 3) := by decide +kernel
theorem dX8_read_19 : decode cX8_read 19 = .ok (.iload_n 1, 1) := by decide +kernel
theorem dX8_read_20 : decode cX8_read 20 = .ok (.iaload, 1) := by decide +kernel
theorem dX8_read_21 : decode cX8_read 21 = .ok (.iconst 1, 1) := by decide +kernel
theorem dX8_read_22 : decode cX8_read 22 = .ok (.isub, 1) := by decide +kernel
theorem dX8_read_23 : decode cX8_read 23 = .ok (.i2l, 1) := by decide +kernel
theorem dX8_read_24 : decode cX8_read 24 = .ok (.invokestatic 57, 3) := by decide +kernel
theorem dX8_read_27 : decode cX8_read 27 = .ok (.ifCond .eq 17, 3) := by decide +kernel
theorem dX8_read_30 : decode cX8_read 30 = .ok (.aload_n 0, 1) := by decide +kernel
theorem dX8_read_31 : decode cX8_read 31 = .ok (.getfield 51, 3) := by decide +kernel
theorem dX8_read_34 : decode cX8_read 34 = .ok (.bipush 60, 2) := by decide +kernel
theorem dX8_read_36 : decode cX8_read 36 = .ok (.iload_n 1, 1) := by decide +kernel
theorem dX8_read_37 : decode cX8_read 37 = .ok (.imul, 1) := by decide +kernel
theorem dX8_read_38 : decode cX8_read 38 = .ok (.iload_n 2, 1) := by decide +kernel
theorem dX8_read_39 : decode cX8_read 39 = .ok (.iadd, 1) := by decide +kernel
theorem dX8_read_40 : decode cX8_read 40 = .ok (.laload, 1) := by decide +kernel
theorem dX8_read_41 : decode cX8_read 41 = .ok (.goto 6, 3) := by decide +kernel
theorem dX8_read_44 : decode cX8_read 44 = .ok (.ldc2_w 254, 3) := by decide +kernel
theorem dX8_read_47 : decode cX8_read 47 = .ok (.lreturn, 1) := by decide +kernel
theorem dX8_shift_0 : decode cX8_shift 0 = .ok (.iload_n 1, 1) := by decide +kernel
theorem dX8_shift_1 : decode cX8_shift 1 = .ok (.i2l, 1) := by decide +kernel
theorem dX8_shift_2 : decode cX8_shift 2 = .ok (.lconst 0, 1) := by decide +kernel
theorem dX8_shift_3 : decode cX8_shift 3 = .ok (.ldc2_w 263, 3) := by decide +kernel
theorem dX8_shift_6 : decode cX8_shift 6 = .ok (.invokestatic 57, 3) := by decide +kernel
theorem dX8_shift_9 : decode cX8_shift 9 = .ok (.ifCond .eq 15, 3) := by decide +kernel
theorem dX8_shift_12 : decode cX8_shift 12 = .ok (.iload_n 3, 1) := by decide +kernel
theorem dX8_shift_13 : decode cX8_shift 13 = .ok (.i2l, 1) := by decide +kernel
theorem dX8_shift_14 : decode cX8_shift 14 = .ok (.lconst 0, 1) := by decide +kernel
theorem dX8_shift_15 : decode cX8_shift 15 = .ok (.ldc2_w 263, 3) := by decide +kernel
theorem dX8_shift_18 : decode cX8_shift 18 = .ok (.invokestatic 57, 3) := by decide +kernel
theorem dX8_shift_21 : decode cX8_shift 21 = .ok (.ifCond .ne 5, 3) := by decide +kernel
theorem dX8_shift_24 : decode cX8_shift 24 = .ok (.iconst (-1), 1) := by decide +kernel
theorem dX8_shift_25 : decode cX8_shift 25 = .ok (.ireturn, 1) := by decide +kernel
theorem dX8_shift_26 : decode cX8_shift 26 = .ok (.aload_n 0, 1) := by decide +kernel
theorem dX8_shift_27 : decode cX8_shift 27 = .ok (.getfield 45, 3) := by decide +kernel
theorem dX8_shift_30 : decode cX8_shift 30 = .ok (.iload_n 1, 1) := by decide +kernel
theorem dX8_shift_31 : decode cX8_shift 31 = .ok (.iaload, 1) := by decide +kernel
theorem dX8_shift_32 : decode cX8_shift 32 = .ok (.iconst (-1), 1) := by decide +kernel
theorem dX8_shift_33 : decode cX8_shift 33 = .ok (.if_icmp .eq 13, 3) := by decide +kernel
theorem dX8_shift_36 : decode cX8_shift 36 = .ok (.aload_n 0, 1) := by decide +kernel
theorem dX8_shift_37 : decode cX8_shift 37 = .ok (.getfield 45, 3) := by decide +kernel
theorem dX8_shift_40 : decode cX8_shift 40 = .ok (.iload_n 3, 1) := by decide +kernel
theorem dX8_shift_41 : decode cX8_shift 41 = .ok (.iaload, 1) := by decide +kernel
theorem dX8_shift_42 : decode cX8_shift 42 = .ok (.iconst (-1), 1) := by decide +kernel
theorem dX8_shift_43 : decode cX8_shift 43 = .ok (.if_icmp .ne 6, 3) := by decide +kernel
theorem dX8_shift_46 : decode cX8_shift 46 = .ok (.bipush (-11), 2) := by decide +kernel
theorem dX8_shift_48 : decode cX8_shift 48 = .ok (.ireturn, 1) := by decide +kernel
theorem dX8_shift_49 : decode cX8_shift 49 = .ok (.aload_n 0, 1) := by decide +kernel
theorem dX8_shift_50 : decode cX8_shift 50 = .ok (.getfield 45, 3) := by decide +kernel
theorem dX8_shift_53 : decode cX8_shift 53 = .ok (.iload_n 1, 1) := by decide +kernel
theorem dX8_shift_54 : decode cX8_shift 54 = .ok (.iaload, 1) := by decide +kernel
theorem dX8_shift_55 : decode cX8_shift 55 = .ok (.aload_n 0, 1) := by decide +kernel
theorem dX8_shift_56 : decode cX8_shift 56 = .ok (.getfield 45, 3) := by decide +kernel
theorem dX8_shift_59 : decode cX8_shift 59 = .ok (.iload_n 3, 1) := by decide +kernel
theorem dX8_shift_60 : decode cX8_shift 60 = .ok (.iaload, 1) := by decide +kernel
theorem dX8_shift_61 : decode cX8_shift 61 = .ok (.if_icmp .eq 6, 3) := by decide +kernel
theorem dX8_shift_64 : decode cX8_shift 64 = .ok (.bipush (-12), 2) := by decide +kernel
theorem dX8_shift_66 : decode cX8_shift 66 = .ok (.ireturn, 1) := by decide +kernel
theorem dX8_shift_67 : decode cX8_shift 67 = .ok (.iload 5, 2) := by decide +kernel
theorem dX8_shift_69 : decode cX8_shift 69 = .ok (.ifCond .lt 60, 3) := by decide +kernel
theorem dX8_shift_72 : decode cX8_shift 72 = .ok (.iload_n 2, 1) := by decide +kernel
theorem dX8_shift_73 : decode cX8_shift 73 = .ok (.ifCond .lt 56, 3) := by decide +kernel
theorem dX8_shift_76 : decode cX8_shift 76 = .ok (.iload 4, 2) := by decide +kernel
theorem dX8_shift_78 : decode cX8_shift 78 = .ok (.ifCond .lt 51, 3) := by decide +kernel
theorem dX8_shift_81 : decode cX8_shift 81 = .ok (.iload_n 2, 1) := by decide +kernel
theorem dX8_shift_82 : decode cX8_shift 82 = .ok (.aload_n 0, 1) := by decide +kernel
theorem dX8_shift_83 : decode cX8_shift 83 = .ok (.getfield 48, 3) := by decide +kernel
theorem dX8_shift_86 : decode cX8_shift 86 = .ok (.iload_n 1, 1) := by decide +kernel
theorem dX8_shift_87 : decode cX8_shift 87 = .ok (.iaload, 1) := by decide +kernel
theorem dX8_shift_88 : decode cX8_shift 88 = .ok (.if_icmp .gt 41, 3) := by decide +kernel
theorem dX8_shift_91 : decode cX8_shift 91 = .ok (.iload 4, 2) := by decide +kernel
theorem dX8_shift_93 : decode cX8_shift 93 = .ok (.aload_n 0, 1) := by decide +kernel
theorem dX8_shift_94 : decode cX8_shift 94 = .ok (.getfield 48, 3) := by decide +kernel
theorem dX8_shift_97 : decode cX8_shift 97 = .ok (.iload_n 3, 1) := by decide +kernel
theorem dX8_shift_98 : decode cX8_shift 98 = .ok (.iaload, 1) := by decide +kernel
theorem dX8_shift_99 : decode cX8_shift 99 = .ok (.if_icmp .gt 30, 3) := by decide +kernel
theorem dX8_shift_102 : decode cX8_shift 102 = .ok (.iload 5, 2) := by decide +kernel
theorem dX8_shift_104 : decode cX8_shift 104 = .ok (.aload_n 0, 1) := by decide +kernel
theorem dX8_shift_105 : decode cX8_shift 105 = .ok (.getfield 48, 3) := by decide +kernel
theorem dX8_shift_108 : decode cX8_shift 108 = .ok (.iload_n 1, 1) := by decide +kernel
theorem dX8_shift_109 : decode cX8_shift 109 = .ok (.iaload, 1) := by decide +kernel
theorem dX8_shift_110 : decode cX8_shift 110 = .ok (.iload_n 2, 1) := by decide +kernel
theorem dX8_shift_111 : decode cX8_shift 111 = .ok (.isub, 1) := by decide +kernel
theorem dX8_shift_112 : decode cX8_shift 112 = .ok (.if_icmp .gt 17, 3) := by decide +kernel
theorem dX8_shift_115 : decode cX8_shift 115 = .ok (.iload 5, 2) := by decide +kernel
theorem dX8_shift_117 : decode cX8_shift 117 = .ok (.aload_n 0, 1) := by decide +kernel
theorem dX8_shift_118 : decode cX8_shift 118 = .ok (.getfield 48, 3) := by decide +kernel
theorem dX8_shift_121 : decode cX8_shift 121 = .ok (.iload_n 3, 1) := by decide +kernel
theorem dX8_shift_122 : decode cX8_shift 122 = .ok (.iaload, 1) := by decide +kernel
theorem dX8_shift_123 : decode cX8_shift 123 = .ok (.iload 4, 2) := by decide +kernel
theorem dX8_shift_125 : decode cX8_shift 125 = .ok (.isub, 1) := by decide +kernel
theorem dX8_shift_126 : decode cX8_shift 126 = .ok (.if_icmp .le 6, 3) := by decide +kernel
theorem dX8_shift_129 : decode cX8_shift 129 = .ok (.bipush (-13), 2) := by decide +kernel
theorem dX8_shift_131 : decode cX8_shift 131 = .ok (.ireturn, 1) := by decide +kernel
theorem dX8_shift_132 : decode cX8_shift 132 = .ok (.iconst 0, 1) := by decide +kernel
theorem dX8_shift_133 : decode cX8_shift 133 = .ok (.istore 6, 2) := by decide +kernel
theorem dX8_shift_135 : decode cX8_shift 135 = .ok (.iload 6, 2) := by decide +kernel
theorem dX8_shift_137 : decode cX8_shift 137 = .ok (.iload 5, 2) := by decide +kernel
theorem dX8_shift_139 : decode cX8_shift 139 = .ok (.if_icmp .ge 58, 3) := by decide +kernel
theorem dX8_shift_142 : decode cX8_shift 142 = .ok (.iload_n 2, 1) := by decide +kernel
theorem dX8_shift_143 : decode cX8_shift 143 = .ok (.iload 4, 2) := by decide +kernel
theorem dX8_shift_145 : decode cX8_shift 145 = .ok (.if_icmp .ge 13, 3) := by decide +kernel
theorem dX8_shift_148 : decode cX8_shift 148 = .ok (.iload 5, 2) := by decide +kernel
theorem dX8_shift_150 : decode cX8_shift 150 = .ok (.iconst 1, 1) := by decide +kernel
theorem dX8_shift_151 : decode cX8_shift 151 = .ok (.isub, 1) := by decide +kernel
theorem dX8_shift_152 : decode cX8_shift 152 = .ok (.iload 6, 2) := by decide +kernel
theorem dX8_shift_154 : decode cX8_shift 154 = .ok (.isub, 1) := by decide +kernel
theorem dX8_shift_155 : decode cX8_shift 155 = .ok (.goto 5, 3) := by decide +kernel
theorem dX8_shift_158 : decode cX8_shift 158 = .ok (.iload 6, 2) := by decide +kernel
theorem dX8_shift_160 : decode cX8_shift 160 = .ok (.istore 7, 2) := by decide +kernel
theorem dX8_shift_162 : decode cX8_shift 162 = .ok (.aload_n 0, 1) := by decide +kernel
theorem dX8_shift_163 : decode cX8_shift 163 = .ok (.getfield 51, 3) := by decide +kernel
theorem dX8_shift_166 : decode cX8_shift 166 = .ok (.bipush 60, 2) := by decide +kernel
theorem dX8_shift_168 : decode cX8_shift 168 = .ok (.iload_n 3, 1) := by decide +kernel
theorem dX8_shift_169 : decode cX8_shift 169 = .ok (.imul, 1) := by decide +kernel
theorem dX8_shift_170 : decode cX8_shift 170 = .ok (.iload 4, 2) := by decide +kernel
theorem dX8_shift_172 : decode cX8_shift 172 = .ok (.iadd, 1) := by decide +kernel
theorem dX8_shift_173 : decode cX8_shift 173 = .ok (.iload 7, 2) := by decide +kernel
theorem dX8_shift_175 : decode cX8_shift 175 = .ok (.iadd, 1) := by decide +kernel
theorem dX8_shift_176 : decode cX8_shift 176 = .ok (.aload_n 0, 1) := by decide +kernel
theorem dX8_shift_177 : decode cX8_shift 177 = .ok (.getfield 51, 3) := by decide +kernel
theorem dX8_shift_180 : decode cX8_shift 180 = .ok (.bipush 60, 2) := by decide +kernel
theorem dX8_shift_182 : decode cX8_shift 182 = .ok (.iload_n 1, 1) := by decide +kernel
theorem dX8_shift_183 : decode cX8_shift 183 = .ok (.imul, 1) := by decide +kernel
theorem dX8_shift_184 : decode cX8_shift 184 = .ok (.iload_n 2, 1) := by decide +kernel
theorem dX8_shift_185 : decode cX8_shift 185 = .ok (.iadd, 1) := by decide +kernel
theorem dX8_shift_186 : decode cX8_shift 186 = .ok (.iload 7, 2) := by decide +kernel
theorem dX8_shift_188 : decode cX8_shift 188 = .ok (.iadd, 1) := by decide +kernel
theorem dX8_shift_189 : decode cX8_shift 189 = .ok (.laload, 1) := by decide +kernel
theorem dX8_shift_190 : decode cX8_shift 190 = .ok (.lastore, 1) := by decide +kernel
theorem dX8_shift_191 : decode cX8_shift 191 = .ok (.iinc 6 1, 3) := by decide +kernel
theorem dX8_shift_194 : decode cX8_shift 194 = .ok (.goto (-59), 3) := by decide +kernel
theorem dX8_shift_197 : decode cX8_shift 197 = .ok (.iload 5, 2) := by decide +kernel
theorem dX8_shift_199 : decode cX8_shift 199 = .ok (.ireturn, 1) := by decide +kernel
end
section
theorem dL_law_0 : decode cL_law 0 = .ok (.new 7, 3) := by decide +kernel
theorem dL_law_3 : decode cL_law 3 = .ok (.dup, 1) := by decide +kernel
theorem dL_law_4 : decode cL_law 4 = .ok (.invokespecial 9, 3) := by decide +kernel
theorem dL_law_7 : decode cL_law 7 = .ok (.astore_n 1, 1) := by decide +kernel
theorem dL_law_8 : decode cL_law 8 = .ok (.new 10, 3) := by decide +kernel
theorem dL_law_11 : decode cL_law 11 = .ok (.dup, 1) := by decide +kernel
theorem dL_law_12 : decode cL_law 12 = .ok (.invokespecial 12, 3) := by decide +kernel
theorem dL_law_15 : decode cL_law 15 = .ok (.astore_n 2, 1) := by decide +kernel
theorem dL_law_16 : decode cL_law 16 = .ok (.iconst 0, 1) := by decide +kernel
theorem dL_law_17 : decode cL_law 17 = .ok (.istore_n 3, 1) := by decide +kernel
theorem dL_law_18 : decode cL_law 18 = .ok (.iload_n 3, 1) := by decide +kernel
theorem dL_law_19 : decode cL_law 19 = .ok (.aload_n 0, 1) := by decide +kernel
theorem dL_law_20 : decode cL_law 20 = .ok (.arraylength, 1) := by decide +kernel
theorem dL_law_21 : decode cL_law 21 = .ok (.bipush 6, 2) := by decide +kernel
theorem dL_law_23 : decode cL_law 23 = .ok (.isub, 1) := by decide +kernel
theorem dL_law_24 : decode cL_law 24 = .ok (.if_icmp .gt 1317, 3) := by decide +kernel
theorem dL_law_27 : decode cL_law 27 = .ok (.aload_n 0, 1) := by decide +kernel
theorem dL_law_28 : decode cL_law 28 = .ok (.iload_n 3, 1) := by decide +kernel
theorem dL_law_29 : decode cL_law 29 = .ok (.iaload, 1) := by decide +kernel
theorem dL_law_30 : decode cL_law 30 = .ok (.bipush 63, 2) := by decide +kernel
theorem dL_law_32 : decode cL_law 32 = .ok (.iand, 1) := by decide +kernel
theorem dL_law_33 : decode cL_law 33 = .ok (.tableswitch 1302 0 35 #[159, 202, 235, 268, 301, 344, 377, 410, 459, 482, 505, 528, 551, 564, 577, 600, 633, 666, 689, 748, 771, 814, 848, 872, 905, 918, 961, 974, 1007, 1020, 1033, 1066, 1089, 1132, 1205, 1239], 159) := by decide +kernel
theorem dL_law_192 : decode cL_law 192 = .ok (.aload_n 1, 1) := by decide +kernel
theorem dL_law_193 : decode cL_law 193 = .ok (.aload_n 0, 1) := by decide +kernel
theorem dL_law_194 : decode cL_law 194 = .ok (.iload_n 3, 1) := by decide +kernel
theorem dL_law_195 : decode cL_law 195 = .ok (.iconst 1, 1) := by decide +kernel
theorem dL_law_196 : decode cL_law 196 = .ok (.iadd, 1) := by decide +kernel
theorem dL_law_197 : decode cL_law 197 = .ok (.iaload, 1) := by decide +kernel
theorem dL_law_198 : decode cL_law 198 = .ok (.aload_n 0, 1) := by decide +kernel
theorem dL_law_199 : decode cL_law 199 = .ok (.iload_n 3, 1) := by decide +kernel
theorem dL_law_200 : decode cL_law 200 = .ok (.iconst 2, 1) := by decide +kernel
theorem dL_law_201 : decode cL_law 201 = .ok (.iadd, 1) := by decide +kernel
theorem dL_law_202 : decode cL_law 202 = .ok (.iaload, 1) := by decide +kernel
theorem dL_law_203 : decode cL_law 203 = .ok (.aload_n 0, 1) := by decide +kernel
theorem dL_law_204 : decode cL_law 204 = .ok (.iload_n 3, 1) := by decide +kernel
theorem dL_law_205 : decode cL_law 205 = .ok (.iconst 3, 1) := by decide +kernel
theorem dL_law_206 : decode cL_law 206 = .ok (.iadd, 1) := by decide +kernel
theorem dL_law_207 : decode cL_law 207 = .ok (.iaload, 1) := by decide +kernel
theorem dL_law_208 : decode cL_law 208 = .ok (.invokevirtual 13, 3) := by decide +kernel
theorem dL_law_211 : decode cL_law 211 = .ok (.aload_n 2, 1) := by decide +kernel
theorem dL_law_212 : decode cL_law 212 = .ok (.aload_n 0, 1) := by decide +kernel
theorem dL_law_213 : decode cL_law 213 = .ok (.iload_n 3, 1) := by decide +kernel
theorem dL_law_214 : decode cL_law 214 = .ok (.iconst 1, 1) := by decide +kernel
theorem dL_law_215 : decode cL_law 215 = .ok (.iadd, 1) := by decide +kernel
theorem dL_law_216 : decode cL_law 216 = .ok (.iaload, 1) := by decide +kernel
theorem dL_law_217 : decode cL_law 217 = .ok (.aload_n 0, 1) := by decide +kernel
theorem dL_law_218 : decode cL_law 218 = .ok (.iload_n 3, 1) := by decide +kernel
theorem dL_law_219 : decode cL_law 219 = .ok (.iconst 2, 1) := by decide +kernel
theorem dL_law_220 : decode cL_law 220 = .ok (.iadd, 1) := by decide +kernel
theorem dL_law_221 : decode cL_law 221 = .ok (.iaload, 1) := by decide +kernel
theorem dL_law_222 : decode cL_law 222 = .ok (.aload_n 0, 1) := by decide +kernel
theorem dL_law_223 : decode cL_law 223 = .ok (.iload_n 3, 1) := by decide +kernel
theorem dL_law_224 : decode cL_law 224 = .ok (.iconst 3, 1) := by decide +kernel
theorem dL_law_225 : decode cL_law 225 = .ok (.iadd, 1) := by decide +kernel
theorem dL_law_226 : decode cL_law 226 = .ok (.iaload, 1) := by decide +kernel
theorem dL_law_227 : decode cL_law 227 = .ok (.invokevirtual 17, 3) := by decide +kernel
theorem dL_law_230 : decode cL_law 230 = .ok (.if_icmp .eq 1105, 3) := by decide +kernel
theorem dL_law_233 : decode cL_law 233 = .ok (.iconst 0, 1) := by decide +kernel
theorem dL_law_234 : decode cL_law 234 = .ok (.ireturn, 1) := by decide +kernel
theorem dL_law_235 : decode cL_law 235 = .ok (.aload_n 1, 1) := by decide +kernel
theorem dL_law_236 : decode cL_law 236 = .ok (.aload_n 0, 1) := by decide +kernel
theorem dL_law_237 : decode cL_law 237 = .ok (.iload_n 3, 1) := by decide +kernel
theorem dL_law_238 : decode cL_law 238 = .ok (.iconst 1, 1) := by decide +kernel
theorem dL_law_239 : decode cL_law 239 = .ok (.iadd, 1) := by decide +kernel
theorem dL_law_240 : decode cL_law 240 = .ok (.iaload, 1) := by decide +kernel
theorem dL_law_241 : decode cL_law 241 = .ok (.aload_n 0, 1) := by decide +kernel
theorem dL_law_242 : decode cL_law 242 = .ok (.iload_n 3, 1) := by decide +kernel
theorem dL_law_243 : decode cL_law 243 = .ok (.iconst 2, 1) := by decide +kernel
theorem dL_law_244 : decode cL_law 244 = .ok (.iadd, 1) := by decide +kernel
theorem dL_law_245 : decode cL_law 245 = .ok (.iaload, 1) := by decide +kernel
theorem dL_law_246 : decode cL_law 246 = .ok (.invokevirtual 18, 3) := by decide +kernel
theorem dL_law_249 : decode cL_law 249 = .ok (.aload_n 2, 1) := by decide +kernel
theorem dL_law_250 : decode cL_law 250 = .ok (.aload_n 0, 1) := by decide +kernel
theorem dL_law_251 : decode cL_law 251 = .ok (.iload_n 3, 1) := by decide +kernel
theorem dL_law_252 : decode cL_law 252 = .ok (.iconst 1, 1) := by decide +kernel
theorem dL_law_253 : decode cL_law 253 = .ok (.iadd, 1) := by decide +kernel
theorem dL_law_254 : decode cL_law 254 = .ok (.iaload, 1) := by decide +kernel
theorem dL_law_255 : decode cL_law 255 = .ok (.aload_n 0, 1) := by decide +kernel
theorem dL_law_256 : decode cL_law 256 = .ok (.iload_n 3, 1) := by decide +kernel
theorem dL_law_257 : decode cL_law 257 = .ok (.iconst 2, 1) := by decide +kernel
theorem dL_law_258 : decode cL_law 258 = .ok (.iadd, 1) := by decide +kernel
theorem dL_law_259 : decode cL_law 259 = .ok (.iaload, 1) := by decide +kernel
theorem dL_law_260 : decode cL_law 260 = .ok (.invokevirtual 22, 3) := by decide +kernel
theorem dL_law_263 : decode cL_law 263 = .ok (.if_icmp .eq 1072, 3) := by decide +kernel
theorem dL_law_266 : decode cL_law 266 = .ok (.iconst 0, 1) := by decide +kernel
theorem dL_law_267 : decode cL_law 267 = .ok (.ireturn, 1) := by decide +kernel
theorem dL_law_268 : decode cL_law 268 = .ok (.aload_n 1, 1) := by decide +kernel
theorem dL_law_269 : decode cL_law 269 = .ok (.aload_n 0, 1) := by decide +kernel
theorem dL_law_270 : decode cL_law 270 = .ok (.iload_n 3, 1) := by decide +kernel
theorem dL_law_271 : decode cL_law 271 = .ok (.iconst 1, 1) := by decide +kernel
theorem dL_law_272 : decode cL_law 272 = .ok (.iadd, 1) := by decide +kernel
theorem dL_law_273 : decode cL_law 273 = .ok (.iaload, 1) := by decide +kernel
theorem dL_law_274 : decode cL_law 274 = .ok (.aload_n 0, 1) := by decide +kernel
theorem dL_law_275 : decode cL_law 275 = .ok (.iload_n 3, 1) := by decide +kernel
theorem dL_law_276 : decode cL_law 276 = .ok (.iconst 2, 1) := by decide +kernel
theorem dL_law_277 : decode cL_law 277 = .ok (.iadd, 1) := by decide +kernel
theorem dL_law_278 : decode cL_law 278 = .ok (.iaload, 1) := by decide +kernel
theorem dL_law_279 : decode cL_law 279 = .ok (.invokevirtual 23, 3) := by decide +kernel
theorem dL_law_282 : decode cL_law 282 = .ok (.aload_n 2, 1) := by decide +kernel
theorem dL_law_283 : decode cL_law 283 = .ok (.aload_n 0, 1) := by decide +kernel
theorem dL_law_284 : decode cL_law 284 = .ok (.iload_n 3, 1) := by decide +kernel
theorem dL_law_285 : decode cL_law 285 = .ok (.iconst 1, 1) := by decide +kernel
theorem dL_law_286 : decode cL_law 286 = .ok (.iadd, 1) := by decide +kernel
theorem dL_law_287 : decode cL_law 287 = .ok (.iaload, 1) := by decide +kernel
theorem dL_law_288 : decode cL_law 288 = .ok (.aload_n 0, 1) := by decide +kernel
theorem dL_law_289 : decode cL_law 289 = .ok (.iload_n 3, 1) := by decide +kernel
theorem dL_law_290 : decode cL_law 290 = .ok (.iconst 2, 1) := by decide +kernel
theorem dL_law_291 : decode cL_law 291 = .ok (.iadd, 1) := by decide +kernel
theorem dL_law_292 : decode cL_law 292 = .ok (.iaload, 1) := by decide +kernel
theorem dL_law_293 : decode cL_law 293 = .ok (.invokevirtual 26, 3) := by decide +kernel
theorem dL_law_296 : decode cL_law 296 = .ok (.if_icmp .eq 1039, 3) := by decide +kernel
theorem dL_law_299 : decode cL_law 299 = .ok (.iconst 0, 1) := by decide +kernel
theorem dL_law_300 : decode cL_law 300 = .ok (.ireturn, 1) := by decide +kernel
theorem dL_law_301 : decode cL_law 301 = .ok (.aload_n 1, 1) := by decide +kernel
theorem dL_law_302 : decode cL_law 302 = .ok (.aload_n 0, 1) := by decide +kernel
theorem dL_law_303 : decode cL_law 303 = .ok (.iload_n 3, 1) := by decide +kernel
theorem dL_law_304 : decode cL_law 304 = .ok (.iconst 1, 1) := by decide +kernel
theorem dL_law_305 : decode cL_law 305 = .ok (.iadd, 1) := by decide +kernel
theorem dL_law_306 : decode cL_law 306 = .ok (.iaload, 1) := by decide +kernel
theorem dL_law_307 : decode cL_law 307 = .ok (.aload_n 0, 1) := by decide +kernel
theorem dL_law_308 : decode cL_law 308 = .ok (.iload_n 3, 1) := by decide +kernel
theorem dL_law_309 : decode cL_law 309 = .ok (.iconst 2, 1) := by decide +kernel
theorem dL_law_310 : decode cL_law 310 = .ok (.iadd, 1) := by decide +kernel
theorem dL_law_311 : decode cL_law 311 = .ok (.iaload, 1) := by decide +kernel
theorem dL_law_312 : decode cL_law 312 = .ok (.invokevirtual 27, 3) := by decide +kernel
theorem dL_law_315 : decode cL_law 315 = .ok (.aload_n 2, 1) := by decide +kernel
theorem dL_law_316 : decode cL_law 316 = .ok (.aload_n 0, 1) := by decide +kernel
theorem dL_law_317 : decode cL_law 317 = .ok (.iload_n 3, 1) := by decide +kernel
theorem dL_law_318 : decode cL_law 318 = .ok (.iconst 1, 1) := by decide +kernel
theorem dL_law_319 : decode cL_law 319 = .ok (.iadd, 1) := by decide +kernel
theorem dL_law_320 : decode cL_law 320 = .ok (.iaload, 1) := by decide +kernel
theorem dL_law_321 : decode cL_law 321 = .ok (.aload_n 0, 1) := by decide +kernel
theorem dL_law_322 : decode cL_law 322 = .ok (.iload_n 3, 1) := by decide +kernel
theorem dL_law_323 : decode cL_law 323 = .ok (.iconst 2, 1) := by decide +kernel
theorem dL_law_324 : decode cL_law 324 = .ok (.iadd, 1) := by decide +kernel
theorem dL_law_325 : decode cL_law 325 = .ok (.iaload, 1) := by decide +kernel
theorem dL_law_326 : decode cL_law 326 = .ok (.invokevirtual 30, 3) := by decide +kernel
theorem dL_law_329 : decode cL_law 329 = .ok (.if_icmp .eq 1006, 3) := by decide +kernel
theorem dL_law_332 : decode cL_law 332 = .ok (.iconst 0, 1) := by decide +kernel
theorem dL_law_333 : decode cL_law 333 = .ok (.ireturn, 1) := by decide +kernel
theorem dL_law_334 : decode cL_law 334 = .ok (.aload_n 1, 1) := by decide +kernel
theorem dL_law_335 : decode cL_law 335 = .ok (.aload_n 0, 1) := by decide +kernel
theorem dL_law_336 : decode cL_law 336 = .ok (.iload_n 3, 1) := by decide +kernel
theorem dL_law_337 : decode cL_law 337 = .ok (.iconst 1, 1) := by decide +kernel
theorem dL_law_338 : decode cL_law 338 = .ok (.iadd, 1) := by decide +kernel
theorem dL_law_339 : decode cL_law 339 = .ok (.iaload, 1) := by decide +kernel
theorem dL_law_340 : decode cL_law 340 = .ok (.aload_n 0, 1) := by decide +kernel
theorem dL_law_341 : decode cL_law 341 = .ok (.iload_n 3, 1) := by decide +kernel
theorem dL_law_342 : decode cL_law 342 = .ok (.iconst 2, 1) := by decide +kernel
theorem dL_law_343 : decode cL_law 343 = .ok (.iadd, 1) := by decide +kernel
theorem dL_law_344 : decode cL_law 344 = .ok (.iaload, 1) := by decide +kernel
theorem dL_law_345 : decode cL_law 345 = .ok (.aload_n 0, 1) := by decide +kernel
theorem dL_law_346 : decode cL_law 346 = .ok (.iload_n 3, 1) := by decide +kernel
theorem dL_law_347 : decode cL_law 347 = .ok (.iconst 3, 1) := by decide +kernel
theorem dL_law_348 : decode cL_law 348 = .ok (.iadd, 1) := by decide +kernel
theorem dL_law_349 : decode cL_law 349 = .ok (.iaload, 1) := by decide +kernel
theorem dL_law_350 : decode cL_law 350 = .ok (.invokevirtual 31, 3) := by decide +kernel
theorem dL_law_353 : decode cL_law 353 = .ok (.aload_n 2, 1) := by decide +kernel
theorem dL_law_354 : decode cL_law 354 = .ok (.aload_n 0, 1) := by decide +kernel
theorem dL_law_355 : decode cL_law 355 = .ok (.iload_n 3, 1) := by decide +kernel
theorem dL_law_356 : decode cL_law 356 = .ok (.iconst 1, 1) := by decide +kernel
theorem dL_law_357 : decode cL_law 357 = .ok (.iadd, 1) := by decide +kernel
theorem dL_law_358 : decode cL_law 358 = .ok (.iaload, 1) := by decide +kernel
theorem dL_law_359 : decode cL_law 359 = .ok (.aload_n 0, 1) := by decide +kernel
theorem dL_law_360 : decode cL_law 360 = .ok (.iload_n 3, 1) := by decide +kernel
theorem dL_law_361 : decode cL_law 361 = .ok (.iconst 2, 1) := by decide +kernel
theorem dL_law_362 : decode cL_law 362 = .ok (.iadd, 1) := by decide +kernel
theorem dL_law_363 : decode cL_law 363 = .ok (.iaload, 1) := by decide +kernel
theorem dL_law_364 : decode cL_law 364 = .ok (.aload_n 0, 1) := by decide +kernel
theorem dL_law_365 : decode cL_law 365 = .ok (.iload_n 3, 1) := by decide +kernel
theorem dL_law_366 : decode cL_law 366 = .ok (.iconst 3, 1) := by decide +kernel
theorem dL_law_367 : decode cL_law 367 = .ok (.iadd, 1) := by decide +kernel
theorem dL_law_368 : decode cL_law 368 = .ok (.iaload, 1) := by decide +kernel
theorem dL_law_369 : decode cL_law 369 = .ok (.invokevirtual 34, 3) := by decide +kernel
theorem dL_law_372 : decode cL_law 372 = .ok (.if_icmp .eq 963, 3) := by decide +kernel
theorem dL_law_375 : decode cL_law 375 = .ok (.iconst 0, 1) := by decide +kernel
theorem dL_law_376 : decode cL_law 376 = .ok (.ireturn, 1) := by decide +kernel
theorem dL_law_377 : decode cL_law 377 = .ok (.aload_n 1, 1) := by decide +kernel
theorem dL_law_378 : decode cL_law 378 = .ok (.aload_n 0, 1) := by decide +kernel
theorem dL_law_379 : decode cL_law 379 = .ok (.iload_n 3, 1) := by decide +kernel
theorem dL_law_380 : decode cL_law 380 = .ok (.iconst 1, 1) := by decide +kernel
theorem dL_law_381 : decode cL_law 381 = .ok (.iadd, 1) := by decide +kernel
theorem dL_law_382 : decode cL_law 382 = .ok (.iaload, 1) := by decide +kernel
theorem dL_law_383 : decode cL_law 383 = .ok (.aload_n 0, 1) := by decide +kernel
theorem dL_law_384 : decode cL_law 384 = .ok (.iload_n 3, 1) := by decide +kernel
theorem dL_law_385 : decode cL_law 385 = .ok (.iconst 2, 1) := by decide +kernel
theorem dL_law_386 : decode cL_law 386 = .ok (.iadd, 1) := by decide +kernel
theorem dL_law_387 : decode cL_law 387 = .ok (.iaload, 1) := by decide +kernel
theorem dL_law_388 : decode cL_law 388 = .ok (.invokevirtual 35, 3) := by decide +kernel
theorem dL_law_391 : decode cL_law 391 = .ok (.aload_n 2, 1) := by decide +kernel
theorem dL_law_392 : decode cL_law 392 = .ok (.aload_n 0, 1) := by decide +kernel
theorem dL_law_393 : decode cL_law 393 = .ok (.iload_n 3, 1) := by decide +kernel
theorem dL_law_394 : decode cL_law 394 = .ok (.iconst 1, 1) := by decide +kernel
theorem dL_law_395 : decode cL_law 395 = .ok (.iadd, 1) := by decide +kernel
theorem dL_law_396 : decode cL_law 396 = .ok (.iaload, 1) := by decide +kernel
theorem dL_law_397 : decode cL_law 397 = .ok (.aload_n 0, 1) := by decide +kernel
theorem dL_law_398 : decode cL_law 398 = .ok (.iload_n 3, 1) := by decide +kernel
theorem dL_law_399 : decode cL_law 399 = .ok (.iconst 2, 1) := by decide +kernel
theorem dL_law_400 : decode cL_law 400 = .ok (.iadd, 1) := by decide +kernel
theorem dL_law_401 : decode cL_law 401 = .ok (.iaload, 1) := by decide +kernel
theorem dL_law_402 : decode cL_law 402 = .ok (.invokevirtual 38, 3) := by decide +kernel
theorem dL_law_405 : decode cL_law 405 = .ok (.if_icmp .eq 930, 3) := by decide +kernel
theorem dL_law_408 : decode cL_law 408 = .ok (.iconst 0, 1) := by decide +kernel
theorem dL_law_409 : decode cL_law 409 = .ok (.ireturn, 1) := by decide +kernel
theorem dL_law_410 : decode cL_law 410 = .ok (.aload_n 1, 1) := by decide +kernel
theorem dL_law_411 : decode cL_law 411 = .ok (.aload_n 0, 1) := by decide +kernel
theorem dL_law_412 : decode cL_law 412 = .ok (.iload_n 3, 1) := by decide +kernel
theorem dL_law_413 : decode cL_law 413 = .ok (.iconst 1, 1) := by decide +kernel
theorem dL_law_414 : decode cL_law 414 = .ok (.iadd, 1) := by decide +kernel
theorem dL_law_415 : decode cL_law 415 = .ok (.iaload, 1) := by decide +kernel
theorem dL_law_416 : decode cL_law 416 = .ok (.aload_n 0, 1) := by decide +kernel
theorem dL_law_417 : decode cL_law 417 = .ok (.iload_n 3, 1) := by decide +kernel
theorem dL_law_418 : decode cL_law 418 = .ok (.iconst 2, 1) := by decide +kernel
theorem dL_law_419 : decode cL_law 419 = .ok (.iadd, 1) := by decide +kernel
theorem dL_law_420 : decode cL_law 420 = .ok (.iaload, 1) := by decide +kernel
theorem dL_law_421 : decode cL_law 421 = .ok (.invokevirtual 39, 3) := by decide +kernel
theorem dL_law_424 : decode cL_law 424 = .ok (.aload_n 2, 1) := by decide +kernel
theorem dL_law_425 : decode cL_law 425 = .ok (.aload_n 0, 1) := by decide +kernel
theorem dL_law_426 : decode cL_law 426 = .ok (.iload_n 3, 1) := by decide +kernel
theorem dL_law_427 : decode cL_law 427 = .ok (.iconst 1, 1) := by decide +kernel
theorem dL_law_428 : decode cL_law 428 = .ok (.iadd, 1) := by decide +kernel
theorem dL_law_429 : decode cL_law 429 = .ok (.iaload, 1) := by decide +kernel
theorem dL_law_430 : decode cL_law 430 = .ok (.aload_n 0, 1) := by decide +kernel
theorem dL_law_431 : decode cL_law 431 = .ok (.iload_n 3, 1) := by decide +kernel
theorem dL_law_432 : decode cL_law 432 = .ok (.iconst 2, 1) := by decide +kernel
theorem dL_law_433 : decode cL_law 433 = .ok (.iadd, 1) := by decide +kernel
theorem dL_law_434 : decode cL_law 434 = .ok (.iaload, 1) := by decide +kernel
theorem dL_law_435 : decode cL_law 435 = .ok (.invokevirtual 42, 3) := by decide +kernel
theorem dL_law_438 : decode cL_law 438 = .ok (.if_icmp .eq 897, 3) := by decide +kernel
theorem dL_law_441 : decode cL_law 441 = .ok (.iconst 0, 1) := by decide +kernel
theorem dL_law_442 : decode cL_law 442 = .ok (.ireturn, 1) := by decide +kernel
theorem dL_law_443 : decode cL_law 443 = .ok (.aload_n 1, 1) := by decide +kernel
theorem dL_law_444 : decode cL_law 444 = .ok (.aload_n 0, 1) := by decide +kernel
theorem dL_law_445 : decode cL_law 445 = .ok (.iload_n 3, 1) := by decide +kernel
theorem dL_law_446 : decode cL_law 446 = .ok (.iconst 1, 1) := by decide +kernel
theorem dL_law_447 : decode cL_law 447 = .ok (.iadd, 1) := by decide +kernel
theorem dL_law_448 : decode cL_law 448 = .ok (.iaload, 1) := by decide +kernel
theorem dL_law_449 : decode cL_law 449 = .ok (.aload_n 0, 1) := by decide +kernel
theorem dL_law_450 : decode cL_law 450 = .ok (.iload_n 3, 1) := by decide +kernel
theorem dL_law_451 : decode cL_law 451 = .ok (.iconst 2, 1) := by decide +kernel
theorem dL_law_452 : decode cL_law 452 = .ok (.iadd, 1) := by decide +kernel
theorem dL_law_453 : decode cL_law 453 = .ok (.iaload, 1) := by decide +kernel
theorem dL_law_454 : decode cL_law 454 = .ok (.ifCond .eq 7, 3) := by decide +kernel
theorem dL_law_457 : decode cL_law 457 = .ok (.iconst 1, 1) := by decide +kernel
theorem dL_law_458 : decode cL_law 458 = .ok (.goto 4, 3) := by decide +kernel
theorem dL_law_461 : decode cL_law 461 = .ok (.iconst 0, 1) := by decide +kernel
theorem dL_law_462 : decode cL_law 462 = .ok (.invokevirtual 43, 3) := by decide +kernel
theorem dL_law_465 : decode cL_law 465 = .ok (.aload_n 2, 1) := by decide +kernel
theorem dL_law_466 : decode cL_law 466 = .ok (.aload_n 0, 1) := by decide +kernel
theorem dL_law_467 : decode cL_law 467 = .ok (.iload_n 3, 1) := by decide +kernel
theorem dL_law_468 : decode cL_law 468 = .ok (.iconst 1, 1) := by decide +kernel
theorem dL_law_469 : decode cL_law 469 = .ok (.iadd, 1) := by decide +kernel
theorem dL_law_470 : decode cL_law 470 = .ok (.iaload, 1) := by decide +kernel
theorem dL_law_471 : decode cL_law 471 = .ok (.aload_n 0, 1) := by decide +kernel
theorem dL_law_472 : decode cL_law 472 = .ok (.iload_n 3, 1) := by decide +kernel
theorem dL_law_473 : decode cL_law 473 = .ok (.iconst 2, 1) := by decide +kernel
theorem dL_law_474 : decode cL_law 474 = .ok (.iadd, 1) := by decide +kernel
theorem dL_law_475 : decode cL_law 475 = .ok (.iaload, 1) := by decide +kernel
theorem dL_law_476 : decode cL_law 476 = .ok (.ifCond .eq 7, 3) := by decide +kernel
theorem dL_law_479 : decode cL_law 479 = .ok (.iconst 1, 1) := by decide +kernel
theorem dL_law_480 : decode cL_law 480 = .ok (.goto 4, 3) := by decide +kernel
theorem dL_law_483 : decode cL_law 483 = .ok (.iconst 0, 1) := by decide +kernel
theorem dL_law_484 : decode cL_law 484 = .ok (.invokevirtual 47, 3) := by decide +kernel
theorem dL_law_487 : decode cL_law 487 = .ok (.if_icmp .eq 848, 3) := by decide +kernel
theorem dL_law_490 : decode cL_law 490 = .ok (.iconst 0, 1) := by decide +kernel
theorem dL_law_491 : decode cL_law 491 = .ok (.ireturn, 1) := by decide +kernel
theorem dL_law_492 : decode cL_law 492 = .ok (.aload_n 1, 1) := by decide +kernel
theorem dL_law_493 : decode cL_law 493 = .ok (.aload_n 0, 1) := by decide +kernel
theorem dL_law_494 : decode cL_law 494 = .ok (.iload_n 3, 1) := by decide +kernel
theorem dL_law_495 : decode cL_law 495 = .ok (.iconst 1, 1) := by decide +kernel
theorem dL_law_496 : decode cL_law 496 = .ok (.iadd, 1) := by decide +kernel
theorem dL_law_497 : decode cL_law 497 = .ok (.iaload, 1) := by decide +kernel
theorem dL_law_498 : decode cL_law 498 = .ok (.invokevirtual 48, 3) := by decide +kernel
theorem dL_law_501 : decode cL_law 501 = .ok (.aload_n 2, 1) := by decide +kernel
theorem dL_law_502 : decode cL_law 502 = .ok (.aload_n 0, 1) := by decide +kernel
theorem dL_law_503 : decode cL_law 503 = .ok (.iload_n 3, 1) := by decide +kernel
theorem dL_law_504 : decode cL_law 504 = .ok (.iconst 1, 1) := by decide +kernel
theorem dL_law_505 : decode cL_law 505 = .ok (.iadd, 1) := by decide +kernel
theorem dL_law_506 : decode cL_law 506 = .ok (.iaload, 1) := by decide +kernel
theorem dL_law_507 : decode cL_law 507 = .ok (.invokevirtual 52, 3) := by decide +kernel
theorem dL_law_510 : decode cL_law 510 = .ok (.if_icmp .eq 825, 3) := by decide +kernel
theorem dL_law_513 : decode cL_law 513 = .ok (.iconst 0, 1) := by decide +kernel
theorem dL_law_514 : decode cL_law 514 = .ok (.ireturn, 1) := by decide +kernel
theorem dL_law_515 : decode cL_law 515 = .ok (.aload_n 1, 1) := by decide +kernel
theorem dL_law_516 : decode cL_law 516 = .ok (.aload_n 0, 1) := by decide +kernel
theorem dL_law_517 : decode cL_law 517 = .ok (.iload_n 3, 1) := by decide +kernel
theorem dL_law_518 : decode cL_law 518 = .ok (.iconst 1, 1) := by decide +kernel
theorem dL_law_519 : decode cL_law 519 = .ok (.iadd, 1) := by decide +kernel
theorem dL_law_520 : decode cL_law 520 = .ok (.iaload, 1) := by decide +kernel
theorem dL_law_521 : decode cL_law 521 = .ok (.invokevirtual 53, 3) := by decide +kernel
theorem dL_law_524 : decode cL_law 524 = .ok (.aload_n 2, 1) := by decide +kernel
theorem dL_law_525 : decode cL_law 525 = .ok (.aload_n 0, 1) := by decide +kernel
theorem dL_law_526 : decode cL_law 526 = .ok (.iload_n 3, 1) := by decide +kernel
theorem dL_law_527 : decode cL_law 527 = .ok (.iconst 1, 1) := by decide +kernel
theorem dL_law_528 : decode cL_law 528 = .ok (.iadd, 1) := by decide +kernel
theorem dL_law_529 : decode cL_law 529 = .ok (.iaload, 1) := by decide +kernel
theorem dL_law_530 : decode cL_law 530 = .ok (.invokevirtual 56, 3) := by decide +kernel
theorem dL_law_533 : decode cL_law 533 = .ok (.if_icmp .eq 802, 3) := by decide +kernel
theorem dL_law_536 : decode cL_law 536 = .ok (.iconst 0, 1) := by decide +kernel
theorem dL_law_537 : decode cL_law 537 = .ok (.ireturn, 1) := by decide +kernel
theorem dL_law_538 : decode cL_law 538 = .ok (.aload_n 1, 1) := by decide +kernel
theorem dL_law_539 : decode cL_law 539 = .ok (.aload_n 0, 1) := by decide +kernel
theorem dL_law_540 : decode cL_law 540 = .ok (.iload_n 3, 1) := by decide +kernel
theorem dL_law_541 : decode cL_law 541 = .ok (.iconst 1, 1) := by decide +kernel
theorem dL_law_542 : decode cL_law 542 = .ok (.iadd, 1) := by decide +kernel
theorem dL_law_543 : decode cL_law 543 = .ok (.iaload, 1) := by decide +kernel
theorem dL_law_544 : decode cL_law 544 = .ok (.invokevirtual 57, 3) := by decide +kernel
theorem dL_law_547 : decode cL_law 547 = .ok (.aload_n 2, 1) := by decide +kernel
theorem dL_law_548 : decode cL_law 548 = .ok (.aload_n 0, 1) := by decide +kernel
theorem dL_law_549 : decode cL_law 549 = .ok (.iload_n 3, 1) := by decide +kernel
theorem dL_law_550 : decode cL_law 550 = .ok (.iconst 1, 1) := by decide +kernel
theorem dL_law_551 : decode cL_law 551 = .ok (.iadd, 1) := by decide +kernel
theorem dL_law_552 : decode cL_law 552 = .ok (.iaload, 1) := by decide +kernel
theorem dL_law_553 : decode cL_law 553 = .ok (.invokevirtual 60, 3) := by decide +kernel
theorem dL_law_556 : decode cL_law 556 = .ok (.if_icmp .eq 779, 3) := by decide +kernel
theorem dL_law_559 : decode cL_law 559 = .ok (.iconst 0, 1) := by decide +kernel
theorem dL_law_560 : decode cL_law 560 = .ok (.ireturn, 1) := by decide +kernel
theorem dL_law_561 : decode cL_law 561 = .ok (.aload_n 1, 1) := by decide +kernel
theorem dL_law_562 : decode cL_law 562 = .ok (.aload_n 0, 1) := by decide +kernel
theorem dL_law_563 : decode cL_law 563 = .ok (.iload_n 3, 1) := by decide +kernel
theorem dL_law_564 : decode cL_law 564 = .ok (.iconst 1, 1) := by decide +kernel
theorem dL_law_565 : decode cL_law 565 = .ok (.iadd, 1) := by decide +kernel
theorem dL_law_566 : decode cL_law 566 = .ok (.iaload, 1) := by decide +kernel
theorem dL_law_567 : decode cL_law 567 = .ok (.invokevirtual 61, 3) := by decide +kernel
theorem dL_law_570 : decode cL_law 570 = .ok (.aload_n 2, 1) := by decide +kernel
theorem dL_law_571 : decode cL_law 571 = .ok (.aload_n 0, 1) := by decide +kernel
theorem dL_law_572 : decode cL_law 572 = .ok (.iload_n 3, 1) := by decide +kernel
theorem dL_law_573 : decode cL_law 573 = .ok (.iconst 1, 1) := by decide +kernel
theorem dL_law_574 : decode cL_law 574 = .ok (.iadd, 1) := by decide +kernel
theorem dL_law_575 : decode cL_law 575 = .ok (.iaload, 1) := by decide +kernel
theorem dL_law_576 : decode cL_law 576 = .ok (.invokevirtual 64, 3) := by decide +kernel
theorem dL_law_579 : decode cL_law 579 = .ok (.if_icmp .eq 756, 3) := by decide +kernel
theorem dL_law_582 : decode cL_law 582 = .ok (.iconst 0, 1) := by decide +kernel
theorem dL_law_583 : decode cL_law 583 = .ok (.ireturn, 1) := by decide +kernel
theorem dL_law_584 : decode cL_law 584 = .ok (.aload_n 1, 1) := by decide +kernel
theorem dL_law_585 : decode cL_law 585 = .ok (.invokevirtual 65, 3) := by decide +kernel
theorem dL_law_588 : decode cL_law 588 = .ok (.aload_n 2, 1) := by decide +kernel
theorem dL_law_589 : decode cL_law 589 = .ok (.invokevirtual 69, 3) := by decide +kernel
theorem dL_law_592 : decode cL_law 592 = .ok (.if_icmp .eq 743, 3) := by decide +kernel
theorem dL_law_595 : decode cL_law 595 = .ok (.iconst 0, 1) := by decide +kernel
theorem dL_law_596 : decode cL_law 596 = .ok (.ireturn, 1) := by decide +kernel
theorem dL_law_597 : decode cL_law 597 = .ok (.aload_n 1, 1) := by decide +kernel
theorem dL_law_598 : decode cL_law 598 = .ok (.invokevirtual 70, 3) := by decide +kernel
theorem dL_law_601 : decode cL_law 601 = .ok (.aload_n 2, 1) := by decide +kernel
theorem dL_law_602 : decode cL_law 602 = .ok (.invokevirtual 73, 3) := by decide +kernel
theorem dL_law_605 : decode cL_law 605 = .ok (.if_icmp .eq 730, 3) := by decide +kernel
theorem dL_law_608 : decode cL_law 608 = .ok (.iconst 0, 1) := by decide +kernel
theorem dL_law_609 : decode cL_law 609 = .ok (.ireturn, 1) := by decide +kernel
theorem dL_law_610 : decode cL_law 610 = .ok (.aload_n 1, 1) := by decide +kernel
theorem dL_law_611 : decode cL_law 611 = .ok (.aload_n 0, 1) := by decide +kernel
theorem dL_law_612 : decode cL_law 612 = .ok (.iload_n 3, 1) := by decide +kernel
theorem dL_law_613 : decode cL_law 613 = .ok (.iconst 1, 1) := by decide +kernel
theorem dL_law_614 : decode cL_law 614 = .ok (.iadd, 1) := by decide +kernel
theorem dL_law_615 : decode cL_law 615 = .ok (.iaload, 1) := by decide +kernel
theorem dL_law_616 : decode cL_law 616 = .ok (.invokevirtual 74, 3) := by decide +kernel
theorem dL_law_619 : decode cL_law 619 = .ok (.aload_n 2, 1) := by decide +kernel
theorem dL_law_620 : decode cL_law 620 = .ok (.aload_n 0, 1) := by decide +kernel
theorem dL_law_621 : decode cL_law 621 = .ok (.iload_n 3, 1) := by decide +kernel
theorem dL_law_622 : decode cL_law 622 = .ok (.iconst 1, 1) := by decide +kernel
theorem dL_law_623 : decode cL_law 623 = .ok (.iadd, 1) := by decide +kernel
theorem dL_law_624 : decode cL_law 624 = .ok (.iaload, 1) := by decide +kernel
theorem dL_law_625 : decode cL_law 625 = .ok (.invokevirtual 77, 3) := by decide +kernel
theorem dL_law_628 : decode cL_law 628 = .ok (.if_icmp .eq 707, 3) := by decide +kernel
theorem dL_law_631 : decode cL_law 631 = .ok (.iconst 0, 1) := by decide +kernel
theorem dL_law_632 : decode cL_law 632 = .ok (.ireturn, 1) := by decide +kernel
theorem dL_law_633 : decode cL_law 633 = .ok (.aload_n 1, 1) := by decide +kernel
theorem dL_law_634 : decode cL_law 634 = .ok (.aload_n 0, 1) := by decide +kernel
theorem dL_law_635 : decode cL_law 635 = .ok (.iload_n 3, 1) := by decide +kernel
theorem dL_law_636 : decode cL_law 636 = .ok (.iconst 1, 1) := by decide +kernel
theorem dL_law_637 : decode cL_law 637 = .ok (.iadd, 1) := by decide +kernel
theorem dL_law_638 : decode cL_law 638 = .ok (.iaload, 1) := by decide +kernel
theorem dL_law_639 : decode cL_law 639 = .ok (.aload_n 0, 1) := by decide +kernel
theorem dL_law_640 : decode cL_law 640 = .ok (.iload_n 3, 1) := by decide +kernel
theorem dL_law_641 : decode cL_law 641 = .ok (.iconst 2, 1) := by decide +kernel
theorem dL_law_642 : decode cL_law 642 = .ok (.iadd, 1) := by decide +kernel
theorem dL_law_643 : decode cL_law 643 = .ok (.iaload, 1) := by decide +kernel
theorem dL_law_644 : decode cL_law 644 = .ok (.invokevirtual 78, 3) := by decide +kernel
theorem dL_law_647 : decode cL_law 647 = .ok (.aload_n 2, 1) := by decide +kernel
theorem dL_law_648 : decode cL_law 648 = .ok (.aload_n 0, 1) := by decide +kernel
theorem dL_law_649 : decode cL_law 649 = .ok (.iload_n 3, 1) := by decide +kernel
theorem dL_law_650 : decode cL_law 650 = .ok (.iconst 1, 1) := by decide +kernel
theorem dL_law_651 : decode cL_law 651 = .ok (.iadd, 1) := by decide +kernel
theorem dL_law_652 : decode cL_law 652 = .ok (.iaload, 1) := by decide +kernel
theorem dL_law_653 : decode cL_law 653 = .ok (.aload_n 0, 1) := by decide +kernel
theorem dL_law_654 : decode cL_law 654 = .ok (.iload_n 3, 1) := by decide +kernel
theorem dL_law_655 : decode cL_law 655 = .ok (.iconst 2, 1) := by decide +kernel
theorem dL_law_656 : decode cL_law 656 = .ok (.iadd, 1) := by decide +kernel
theorem dL_law_657 : decode cL_law 657 = .ok (.iaload, 1) := by decide +kernel
theorem dL_law_658 : decode cL_law 658 = .ok (.invokevirtual 81, 3) := by decide +kernel
theorem dL_law_661 : decode cL_law 661 = .ok (.if_icmp .eq 674, 3) := by decide +kernel
theorem dL_law_664 : decode cL_law 664 = .ok (.iconst 0, 1) := by decide +kernel
theorem dL_law_665 : decode cL_law 665 = .ok (.ireturn, 1) := by decide +kernel
theorem dL_law_666 : decode cL_law 666 = .ok (.aload_n 1, 1) := by decide +kernel
theorem dL_law_667 : decode cL_law 667 = .ok (.aload_n 0, 1) := by decide +kernel
theorem dL_law_668 : decode cL_law 668 = .ok (.iload_n 3, 1) := by decide +kernel
theorem dL_law_669 : decode cL_law 669 = .ok (.iconst 1, 1) := by decide +kernel
theorem dL_law_670 : decode cL_law 670 = .ok (.iadd, 1) := by decide +kernel
theorem dL_law_671 : decode cL_law 671 = .ok (.iaload, 1) := by decide +kernel
theorem dL_law_672 : decode cL_law 672 = .ok (.aload_n 0, 1) := by decide +kernel
theorem dL_law_673 : decode cL_law 673 = .ok (.iload_n 3, 1) := by decide +kernel
theorem dL_law_674 : decode cL_law 674 = .ok (.iconst 2, 1) := by decide +kernel
theorem dL_law_675 : decode cL_law 675 = .ok (.iadd, 1) := by decide +kernel
theorem dL_law_676 : decode cL_law 676 = .ok (.iaload, 1) := by decide +kernel
theorem dL_law_677 : decode cL_law 677 = .ok (.invokevirtual 82, 3) := by decide +kernel
theorem dL_law_680 : decode cL_law 680 = .ok (.aload_n 2, 1) := by decide +kernel
theorem dL_law_681 : decode cL_law 681 = .ok (.aload_n 0, 1) := by decide +kernel
theorem dL_law_682 : decode cL_law 682 = .ok (.iload_n 3, 1) := by decide +kernel
theorem dL_law_683 : decode cL_law 683 = .ok (.iconst 1, 1) := by decide +kernel
theorem dL_law_684 : decode cL_law 684 = .ok (.iadd, 1) := by decide +kernel
theorem dL_law_685 : decode cL_law 685 = .ok (.iaload, 1) := by decide +kernel
theorem dL_law_686 : decode cL_law 686 = .ok (.aload_n 0, 1) := by decide +kernel
theorem dL_law_687 : decode cL_law 687 = .ok (.iload_n 3, 1) := by decide +kernel
theorem dL_law_688 : decode cL_law 688 = .ok (.iconst 2, 1) := by decide +kernel
theorem dL_law_689 : decode cL_law 689 = .ok (.iadd, 1) := by decide +kernel
theorem dL_law_690 : decode cL_law 690 = .ok (.iaload, 1) := by decide +kernel
theorem dL_law_691 : decode cL_law 691 = .ok (.invokevirtual 85, 3) := by decide +kernel
theorem dL_law_694 : decode cL_law 694 = .ok (.if_icmp .eq 641, 3) := by decide +kernel
theorem dL_law_697 : decode cL_law 697 = .ok (.iconst 0, 1) := by decide +kernel
theorem dL_law_698 : decode cL_law 698 = .ok (.ireturn, 1) := by decide +kernel
theorem dL_law_699 : decode cL_law 699 = .ok (.aload_n 1, 1) := by decide +kernel
theorem dL_law_700 : decode cL_law 700 = .ok (.aload_n 0, 1) := by decide +kernel
theorem dL_law_701 : decode cL_law 701 = .ok (.iload_n 3, 1) := by decide +kernel
theorem dL_law_702 : decode cL_law 702 = .ok (.iconst 1, 1) := by decide +kernel
theorem dL_law_703 : decode cL_law 703 = .ok (.iadd, 1) := by decide +kernel
theorem dL_law_704 : decode cL_law 704 = .ok (.iaload, 1) := by decide +kernel
theorem dL_law_705 : decode cL_law 705 = .ok (.invokevirtual 86, 3) := by decide +kernel
theorem dL_law_708 : decode cL_law 708 = .ok (.aload_n 2, 1) := by decide +kernel
theorem dL_law_709 : decode cL_law 709 = .ok (.aload_n 0, 1) := by decide +kernel
theorem dL_law_710 : decode cL_law 710 = .ok (.iload_n 3, 1) := by decide +kernel
theorem dL_law_711 : decode cL_law 711 = .ok (.iconst 1, 1) := by decide +kernel
theorem dL_law_712 : decode cL_law 712 = .ok (.iadd, 1) := by decide +kernel
theorem dL_law_713 : decode cL_law 713 = .ok (.iaload, 1) := by decide +kernel
theorem dL_law_714 : decode cL_law 714 = .ok (.invokevirtual 89, 3) := by decide +kernel
theorem dL_law_717 : decode cL_law 717 = .ok (.if_icmp .eq 618, 3) := by decide +kernel
theorem dL_law_720 : decode cL_law 720 = .ok (.iconst 0, 1) := by decide +kernel
theorem dL_law_721 : decode cL_law 721 = .ok (.ireturn, 1) := by decide +kernel
theorem dL_law_722 : decode cL_law 722 = .ok (.aload_n 1, 1) := by decide +kernel
theorem dL_law_723 : decode cL_law 723 = .ok (.aload_n 0, 1) := by decide +kernel
theorem dL_law_724 : decode cL_law 724 = .ok (.iload_n 3, 1) := by decide +kernel
theorem dL_law_725 : decode cL_law 725 = .ok (.iconst 1, 1) := by decide +kernel
theorem dL_law_726 : decode cL_law 726 = .ok (.iadd, 1) := by decide +kernel
theorem dL_law_727 : decode cL_law 727 = .ok (.iaload, 1) := by decide +kernel
theorem dL_law_728 : decode cL_law 728 = .ok (.aload_n 0, 1) := by decide +kernel
theorem dL_law_729 : decode cL_law 729 = .ok (.iload_n 3, 1) := by decide +kernel
theorem dL_law_730 : decode cL_law 730 = .ok (.iconst 2, 1) := by decide +kernel
theorem dL_law_731 : decode cL_law 731 = .ok (.iadd, 1) := by decide +kernel
theorem dL_law_732 : decode cL_law 732 = .ok (.iaload, 1) := by decide +kernel
theorem dL_law_733 : decode cL_law 733 = .ok (.aload_n 0, 1) := by decide +kernel
theorem dL_law_734 : decode cL_law 734 = .ok (.iload_n 3, 1) := by decide +kernel
theorem dL_law_735 : decode cL_law 735 = .ok (.iconst 3, 1) := by decide +kernel
theorem dL_law_736 : decode cL_law 736 = .ok (.iadd, 1) := by decide +kernel
theorem dL_law_737 : decode cL_law 737 = .ok (.iaload, 1) := by decide +kernel
theorem dL_law_738 : decode cL_law 738 = .ok (.ifCond .eq 7, 3) := by decide +kernel
theorem dL_law_741 : decode cL_law 741 = .ok (.iconst 1, 1) := by decide +kernel
theorem dL_law_742 : decode cL_law 742 = .ok (.goto 4, 3) := by decide +kernel
theorem dL_law_745 : decode cL_law 745 = .ok (.iconst 0, 1) := by decide +kernel
theorem dL_law_746 : decode cL_law 746 = .ok (.invokevirtual 90, 3) := by decide +kernel
theorem dL_law_749 : decode cL_law 749 = .ok (.aload_n 2, 1) := by decide +kernel
theorem dL_law_750 : decode cL_law 750 = .ok (.aload_n 0, 1) := by decide +kernel
theorem dL_law_751 : decode cL_law 751 = .ok (.iload_n 3, 1) := by decide +kernel
theorem dL_law_752 : decode cL_law 752 = .ok (.iconst 1, 1) := by decide +kernel
theorem dL_law_753 : decode cL_law 753 = .ok (.iadd, 1) := by decide +kernel
theorem dL_law_754 : decode cL_law 754 = .ok (.iaload, 1) := by decide +kernel
theorem dL_law_755 : decode cL_law 755 = .ok (.aload_n 0, 1) := by decide +kernel
theorem dL_law_756 : decode cL_law 756 = .ok (.iload_n 3, 1) := by decide +kernel
theorem dL_law_757 : decode cL_law 757 = .ok (.iconst 2, 1) := by decide +kernel
theorem dL_law_758 : decode cL_law 758 = .ok (.iadd, 1) := by decide +kernel
theorem dL_law_759 : decode cL_law 759 = .ok (.iaload, 1) := by decide +kernel
theorem dL_law_760 : decode cL_law 760 = .ok (.aload_n 0, 1) := by decide +kernel
theorem dL_law_761 : decode cL_law 761 = .ok (.iload_n 3, 1) := by decide +kernel
theorem dL_law_762 : decode cL_law 762 = .ok (.iconst 3, 1) := by decide +kernel
theorem dL_law_763 : decode cL_law 763 = .ok (.iadd, 1) := by decide +kernel
theorem dL_law_764 : decode cL_law 764 = .ok (.iaload, 1) := by decide +kernel
theorem dL_law_765 : decode cL_law 765 = .ok (.ifCond .eq 7, 3) := by decide +kernel
theorem dL_law_768 : decode cL_law 768 = .ok (.iconst 1, 1) := by decide +kernel
theorem dL_law_769 : decode cL_law 769 = .ok (.goto 4, 3) := by decide +kernel
theorem dL_law_772 : decode cL_law 772 = .ok (.iconst 0, 1) := by decide +kernel
theorem dL_law_773 : decode cL_law 773 = .ok (.invokevirtual 94, 3) := by decide +kernel
theorem dL_law_776 : decode cL_law 776 = .ok (.if_icmp .eq 559, 3) := by decide +kernel
theorem dL_law_779 : decode cL_law 779 = .ok (.iconst 0, 1) := by decide +kernel
theorem dL_law_780 : decode cL_law 780 = .ok (.ireturn, 1) := by decide +kernel
theorem dL_law_781 : decode cL_law 781 = .ok (.aload_n 1, 1) := by decide +kernel
theorem dL_law_782 : decode cL_law 782 = .ok (.aload_n 0, 1) := by decide +kernel
theorem dL_law_783 : decode cL_law 783 = .ok (.iload_n 3, 1) := by decide +kernel
theorem dL_law_784 : decode cL_law 784 = .ok (.iconst 1, 1) := by decide +kernel
theorem dL_law_785 : decode cL_law 785 = .ok (.iadd, 1) := by decide +kernel
theorem dL_law_786 : decode cL_law 786 = .ok (.iaload, 1) := by decide +kernel
theorem dL_law_787 : decode cL_law 787 = .ok (.invokevirtual 95, 3) := by decide +kernel
theorem dL_law_790 : decode cL_law 790 = .ok (.aload_n 2, 1) := by decide +kernel
theorem dL_law_791 : decode cL_law 791 = .ok (.aload_n 0, 1) := by decide +kernel
theorem dL_law_792 : decode cL_law 792 = .ok (.iload_n 3, 1) := by decide +kernel
theorem dL_law_793 : decode cL_law 793 = .ok (.iconst 1, 1) := by decide +kernel
theorem dL_law_794 : decode cL_law 794 = .ok (.iadd, 1) := by decide +kernel
theorem dL_law_795 : decode cL_law 795 = .ok (.iaload, 1) := by decide +kernel
theorem dL_law_796 : decode cL_law 796 = .ok (.invokevirtual 98, 3) := by decide +kernel
theorem dL_law_799 : decode cL_law 799 = .ok (.if_icmp .eq 536, 3) := by decide +kernel
theorem dL_law_802 : decode cL_law 802 = .ok (.iconst 0, 1) := by decide +kernel
theorem dL_law_803 : decode cL_law 803 = .ok (.ireturn, 1) := by decide +kernel
theorem dL_law_804 : decode cL_law 804 = .ok (.aload_n 1, 1) := by decide +kernel
theorem dL_law_805 : decode cL_law 805 = .ok (.aload_n 0, 1) := by decide +kernel
theorem dL_law_806 : decode cL_law 806 = .ok (.iload_n 3, 1) := by decide +kernel
theorem dL_law_807 : decode cL_law 807 = .ok (.iconst 1, 1) := by decide +kernel
theorem dL_law_808 : decode cL_law 808 = .ok (.iadd, 1) := by decide +kernel
theorem dL_law_809 : decode cL_law 809 = .ok (.iaload, 1) := by decide +kernel
theorem dL_law_810 : decode cL_law 810 = .ok (.aload_n 0, 1) := by decide +kernel
theorem dL_law_811 : decode cL_law 811 = .ok (.iload_n 3, 1) := by decide +kernel
theorem dL_law_812 : decode cL_law 812 = .ok (.iconst 2, 1) := by decide +kernel
theorem dL_law_813 : decode cL_law 813 = .ok (.iadd, 1) := by decide +kernel
theorem dL_law_814 : decode cL_law 814 = .ok (.iaload, 1) := by decide +kernel
theorem dL_law_815 : decode cL_law 815 = .ok (.aload_n 0, 1) := by decide +kernel
theorem dL_law_816 : decode cL_law 816 = .ok (.iload_n 3, 1) := by decide +kernel
theorem dL_law_817 : decode cL_law 817 = .ok (.iconst 3, 1) := by decide +kernel
theorem dL_law_818 : decode cL_law 818 = .ok (.iadd, 1) := by decide +kernel
theorem dL_law_819 : decode cL_law 819 = .ok (.iaload, 1) := by decide +kernel
theorem dL_law_820 : decode cL_law 820 = .ok (.invokevirtual 99, 3) := by decide +kernel
theorem dL_law_823 : decode cL_law 823 = .ok (.aload_n 2, 1) := by decide +kernel
theorem dL_law_824 : decode cL_law 824 = .ok (.aload_n 0, 1) := by decide +kernel
theorem dL_law_825 : decode cL_law 825 = .ok (.iload_n 3, 1) := by decide +kernel
theorem dL_law_826 : decode cL_law 826 = .ok (.iconst 1, 1) := by decide +kernel
theorem dL_law_827 : decode cL_law 827 = .ok (.iadd, 1) := by decide +kernel
theorem dL_law_828 : decode cL_law 828 = .ok (.iaload, 1) := by decide +kernel
theorem dL_law_829 : decode cL_law 829 = .ok (.aload_n 0, 1) := by decide +kernel
theorem dL_law_830 : decode cL_law 830 = .ok (.iload_n 3, 1) := by decide +kernel
theorem dL_law_831 : decode cL_law 831 = .ok (.iconst 2, 1) := by decide +kernel
theorem dL_law_832 : decode cL_law 832 = .ok (.iadd, 1) := by decide +kernel
theorem dL_law_833 : decode cL_law 833 = .ok (.iaload, 1) := by decide +kernel
theorem dL_law_834 : decode cL_law 834 = .ok (.aload_n 0, 1) := by decide +kernel
theorem dL_law_835 : decode cL_law 835 = .ok (.iload_n 3, 1) := by decide +kernel
theorem dL_law_836 : decode cL_law 836 = .ok (.iconst 3, 1) := by decide +kernel
theorem dL_law_837 : decode cL_law 837 = .ok (.iadd, 1) := by decide +kernel
theorem dL_law_838 : decode cL_law 838 = .ok (.iaload, 1) := by decide +kernel
theorem dL_law_839 : decode cL_law 839 = .ok (.invokevirtual 102, 3) := by decide +kernel
theorem dL_law_842 : decode cL_law 842 = .ok (.if_icmp .eq 493, 3) := by decide +kernel
theorem dL_law_845 : decode cL_law 845 = .ok (.iconst 0, 1) := by decide +kernel
theorem dL_law_846 : decode cL_law 846 = .ok (.ireturn, 1) := by decide +kernel
theorem dL_law_847 : decode cL_law 847 = .ok (.aload_n 1, 1) := by decide +kernel
theorem dL_law_848 : decode cL_law 848 = .ok (.aload_n 0, 1) := by decide +kernel
theorem dL_law_849 : decode cL_law 849 = .ok (.iload_n 3, 1) := by decide +kernel
theorem dL_law_850 : decode cL_law 850 = .ok (.iconst 1, 1) := by decide +kernel
theorem dL_law_851 : decode cL_law 851 = .ok (.iadd, 1) := by decide +kernel
theorem dL_law_852 : decode cL_law 852 = .ok (.iaload, 1) := by decide +kernel
theorem dL_law_853 : decode cL_law 853 = .ok (.aload_n 0, 1) := by decide +kernel
theorem dL_law_854 : decode cL_law 854 = .ok (.iload_n 3, 1) := by decide +kernel
theorem dL_law_855 : decode cL_law 855 = .ok (.iconst 2, 1) := by decide +kernel
theorem dL_law_856 : decode cL_law 856 = .ok (.iadd, 1) := by decide +kernel
theorem dL_law_857 : decode cL_law 857 = .ok (.iaload, 1) := by decide +kernel
theorem dL_law_858 : decode cL_law 858 = .ok (.invokevirtual 103, 3) := by decide +kernel
theorem dL_law_861 : decode cL_law 861 = .ok (.aload_n 2, 1) := by decide +kernel
theorem dL_law_862 : decode cL_law 862 = .ok (.aload_n 0, 1) := by decide +kernel
theorem dL_law_863 : decode cL_law 863 = .ok (.iload_n 3, 1) := by decide +kernel
theorem dL_law_864 : decode cL_law 864 = .ok (.iconst 1, 1) := by decide +kernel
theorem dL_law_865 : decode cL_law 865 = .ok (.iadd, 1) := by decide +kernel
theorem dL_law_866 : decode cL_law 866 = .ok (.iaload, 1) := by decide +kernel
theorem dL_law_867 : decode cL_law 867 = .ok (.aload_n 0, 1) := by decide +kernel
theorem dL_law_868 : decode cL_law 868 = .ok (.iload_n 3, 1) := by decide +kernel
theorem dL_law_869 : decode cL_law 869 = .ok (.iconst 2, 1) := by decide +kernel
theorem dL_law_870 : decode cL_law 870 = .ok (.iadd, 1) := by decide +kernel
theorem dL_law_871 : decode cL_law 871 = .ok (.iaload, 1) := by decide +kernel
theorem dL_law_872 : decode cL_law 872 = .ok (.invokevirtual 107, 3) := by decide +kernel
theorem dL_law_875 : decode cL_law 875 = .ok (.lcmp, 1) := by decide +kernel
theorem dL_law_876 : decode cL_law 876 = .ok (.ifCond .eq 459, 3) := by decide +kernel
theorem dL_law_879 : decode cL_law 879 = .ok (.iconst 0, 1) := by decide +kernel
theorem dL_law_880 : decode cL_law 880 = .ok (.ireturn, 1) := by decide +kernel
theorem dL_law_881 : decode cL_law 881 = .ok (.aload_n 1, 1) := by decide +kernel
theorem dL_law_882 : decode cL_law 882 = .ok (.aload_n 0, 1) := by decide +kernel
theorem dL_law_883 : decode cL_law 883 = .ok (.iload_n 3, 1) := by decide +kernel
theorem dL_law_884 : decode cL_law 884 = .ok (.iconst 1, 1) := by decide +kernel
theorem dL_law_885 : decode cL_law 885 = .ok (.iadd, 1) := by decide +kernel
theorem dL_law_886 : decode cL_law 886 = .ok (.iaload, 1) := by decide +kernel
theorem dL_law_887 : decode cL_law 887 = .ok (.invokevirtual 108, 3) := by decide +kernel
theorem dL_law_890 : decode cL_law 890 = .ok (.aload_n 2, 1) := by decide +kernel
theorem dL_law_891 : decode cL_law 891 = .ok (.aload_n 0, 1) := by decide +kernel
theorem dL_law_892 : decode cL_law 892 = .ok (.iload_n 3, 1) := by decide +kernel
theorem dL_law_893 : decode cL_law 893 = .ok (.iconst 1, 1) := by decide +kernel
theorem dL_law_894 : decode cL_law 894 = .ok (.iadd, 1) := by decide +kernel
theorem dL_law_895 : decode cL_law 895 = .ok (.iaload, 1) := by decide +kernel
theorem dL_law_896 : decode cL_law 896 = .ok (.invokevirtual 112, 3) := by decide +kernel
theorem dL_law_899 : decode cL_law 899 = .ok (.lcmp, 1) := by decide +kernel
theorem dL_law_900 : decode cL_law 900 = .ok (.ifCond .eq 435, 3) := by decide +kernel
theorem dL_law_903 : decode cL_law 903 = .ok (.iconst 0, 1) := by decide +kernel
theorem dL_law_904 : decode cL_law 904 = .ok (.ireturn, 1) := by decide +kernel
theorem dL_law_905 : decode cL_law 905 = .ok (.aload_n 1, 1) := by decide +kernel
theorem dL_law_906 : decode cL_law 906 = .ok (.aload_n 0, 1) := by decide +kernel
theorem dL_law_907 : decode cL_law 907 = .ok (.iload_n 3, 1) := by decide +kernel
theorem dL_law_908 : decode cL_law 908 = .ok (.iconst 1, 1) := by decide +kernel
theorem dL_law_909 : decode cL_law 909 = .ok (.iadd, 1) := by decide +kernel
theorem dL_law_910 : decode cL_law 910 = .ok (.iaload, 1) := by decide +kernel
theorem dL_law_911 : decode cL_law 911 = .ok (.aload_n 0, 1) := by decide +kernel
theorem dL_law_912 : decode cL_law 912 = .ok (.iload_n 3, 1) := by decide +kernel
theorem dL_law_913 : decode cL_law 913 = .ok (.iconst 2, 1) := by decide +kernel
theorem dL_law_914 : decode cL_law 914 = .ok (.iadd, 1) := by decide +kernel
theorem dL_law_915 : decode cL_law 915 = .ok (.iaload, 1) := by decide +kernel
theorem dL_law_916 : decode cL_law 916 = .ok (.invokevirtual 113, 3) := by decide +kernel
theorem dL_law_919 : decode cL_law 919 = .ok (.aload_n 2, 1) := by decide +kernel
theorem dL_law_920 : decode cL_law 920 = .ok (.aload_n 0, 1) := by decide +kernel
theorem dL_law_921 : decode cL_law 921 = .ok (.iload_n 3, 1) := by decide +kernel
theorem dL_law_922 : decode cL_law 922 = .ok (.iconst 1, 1) := by decide +kernel
theorem dL_law_923 : decode cL_law 923 = .ok (.iadd, 1) := by decide +kernel
theorem dL_law_924 : decode cL_law 924 = .ok (.iaload, 1) := by decide +kernel
theorem dL_law_925 : decode cL_law 925 = .ok (.aload_n 0, 1) := by decide +kernel
theorem dL_law_926 : decode cL_law 926 = .ok (.iload_n 3, 1) := by decide +kernel
theorem dL_law_927 : decode cL_law 927 = .ok (.iconst 2, 1) := by decide +kernel
theorem dL_law_928 : decode cL_law 928 = .ok (.iadd, 1) := by decide +kernel
theorem dL_law_929 : decode cL_law 929 = .ok (.iaload, 1) := by decide +kernel
theorem dL_law_930 : decode cL_law 930 = .ok (.invokevirtual 116, 3) := by decide +kernel
theorem dL_law_933 : decode cL_law 933 = .ok (.if_icmp .eq 402, 3) := by decide +kernel
theorem dL_law_936 : decode cL_law 936 = .ok (.iconst 0, 1) := by decide +kernel
theorem dL_law_937 : decode cL_law 937 = .ok (.ireturn, 1) := by decide +kernel
theorem dL_law_938 : decode cL_law 938 = .ok (.aload_n 1, 1) := by decide +kernel
theorem dL_law_939 : decode cL_law 939 = .ok (.invokevirtual 117, 3) := by decide +kernel
theorem dL_law_942 : decode cL_law 942 = .ok (.aload_n 2, 1) := by decide +kernel
theorem dL_law_943 : decode cL_law 943 = .ok (.invokevirtual 120, 3) := by decide +kernel
theorem dL_law_946 : decode cL_law 946 = .ok (.if_icmp .eq 389, 3) := by decide +kernel
theorem dL_law_949 : decode cL_law 949 = .ok (.iconst 0, 1) := by decide +kernel
theorem dL_law_950 : decode cL_law 950 = .ok (.ireturn, 1) := by decide +kernel
theorem dL_law_951 : decode cL_law 951 = .ok (.aload_n 1, 1) := by decide +kernel
theorem dL_law_952 : decode cL_law 952 = .ok (.aload_n 0, 1) := by decide +kernel
theorem dL_law_953 : decode cL_law 953 = .ok (.iload_n 3, 1) := by decide +kernel
theorem dL_law_954 : decode cL_law 954 = .ok (.iconst 1, 1) := by decide +kernel
theorem dL_law_955 : decode cL_law 955 = .ok (.iadd, 1) := by decide +kernel
theorem dL_law_956 : decode cL_law 956 = .ok (.iaload, 1) := by decide +kernel
theorem dL_law_957 : decode cL_law 957 = .ok (.aload_n 0, 1) := by decide +kernel
theorem dL_law_958 : decode cL_law 958 = .ok (.iload_n 3, 1) := by decide +kernel
theorem dL_law_959 : decode cL_law 959 = .ok (.iconst 2, 1) := by decide +kernel
theorem dL_law_960 : decode cL_law 960 = .ok (.iadd, 1) := by decide +kernel
theorem dL_law_961 : decode cL_law 961 = .ok (.iaload, 1) := by decide +kernel
theorem dL_law_962 : decode cL_law 962 = .ok (.aload_n 0, 1) := by decide +kernel
theorem dL_law_963 : decode cL_law 963 = .ok (.iload_n 3, 1) := by decide +kernel
theorem dL_law_964 : decode cL_law 964 = .ok (.iconst 3, 1) := by decide +kernel
theorem dL_law_965 : decode cL_law 965 = .ok (.iadd, 1) := by decide +kernel
theorem dL_law_966 : decode cL_law 966 = .ok (.iaload, 1) := by decide +kernel
theorem dL_law_967 : decode cL_law 967 = .ok (.invokevirtual 121, 3) := by decide +kernel
theorem dL_law_970 : decode cL_law 970 = .ok (.aload_n 2, 1) := by decide +kernel
theorem dL_law_971 : decode cL_law 971 = .ok (.aload_n 0, 1) := by decide +kernel
theorem dL_law_972 : decode cL_law 972 = .ok (.iload_n 3, 1) := by decide +kernel
theorem dL_law_973 : decode cL_law 973 = .ok (.iconst 1, 1) := by decide +kernel
theorem dL_law_974 : decode cL_law 974 = .ok (.iadd, 1) := by decide +kernel
theorem dL_law_975 : decode cL_law 975 = .ok (.iaload, 1) := by decide +kernel
theorem dL_law_976 : decode cL_law 976 = .ok (.aload_n 0, 1) := by decide +kernel
theorem dL_law_977 : decode cL_law 977 = .ok (.iload_n 3, 1) := by decide +kernel
theorem dL_law_978 : decode cL_law 978 = .ok (.iconst 2, 1) := by decide +kernel
theorem dL_law_979 : decode cL_law 979 = .ok (.iadd, 1) := by decide +kernel
theorem dL_law_980 : decode cL_law 980 = .ok (.iaload, 1) := by decide +kernel
theorem dL_law_981 : decode cL_law 981 = .ok (.aload_n 0, 1) := by decide +kernel
theorem dL_law_982 : decode cL_law 982 = .ok (.iload_n 3, 1) := by decide +kernel
theorem dL_law_983 : decode cL_law 983 = .ok (.iconst 3, 1) := by decide +kernel
theorem dL_law_984 : decode cL_law 984 = .ok (.iadd, 1) := by decide +kernel
theorem dL_law_985 : decode cL_law 985 = .ok (.iaload, 1) := by decide +kernel
theorem dL_law_986 : decode cL_law 986 = .ok (.invokevirtual 124, 3) := by decide +kernel
theorem dL_law_989 : decode cL_law 989 = .ok (.if_icmp .eq 346, 3) := by decide +kernel
theorem dL_law_992 : decode cL_law 992 = .ok (.iconst 0, 1) := by decide +kernel
theorem dL_law_993 : decode cL_law 993 = .ok (.ireturn, 1) := by decide +kernel
theorem dL_law_994 : decode cL_law 994 = .ok (.aload_n 1, 1) := by decide +kernel
theorem dL_law_995 : decode cL_law 995 = .ok (.invokevirtual 125, 3) := by decide +kernel
theorem dL_law_998 : decode cL_law 998 = .ok (.aload_n 2, 1) := by decide +kernel
theorem dL_law_999 : decode cL_law 999 = .ok (.invokevirtual 128, 3) := by decide +kernel
theorem dL_law_1002 : decode cL_law 1002 = .ok (.if_icmp .eq 333, 3) := by decide +kernel
theorem dL_law_1005 : decode cL_law 1005 = .ok (.iconst 0, 1) := by decide +kernel
theorem dL_law_1006 : decode cL_law 1006 = .ok (.ireturn, 1) := by decide +kernel
theorem dL_law_1007 : decode cL_law 1007 = .ok (.aload_n 1, 1) := by decide +kernel
theorem dL_law_1008 : decode cL_law 1008 = .ok (.aload_n 0, 1) := by decide +kernel
theorem dL_law_1009 : decode cL_law 1009 = .ok (.iload_n 3, 1) := by decide +kernel
theorem dL_law_1010 : decode cL_law 1010 = .ok (.iconst 1, 1) := by decide +kernel
theorem dL_law_1011 : decode cL_law 1011 = .ok (.iadd, 1) := by decide +kernel
theorem dL_law_1012 : decode cL_law 1012 = .ok (.iaload, 1) := by decide +kernel
theorem dL_law_1013 : decode cL_law 1013 = .ok (.aload_n 0, 1) := by decide +kernel
theorem dL_law_1014 : decode cL_law 1014 = .ok (.iload_n 3, 1) := by decide +kernel
theorem dL_law_1015 : decode cL_law 1015 = .ok (.iconst 2, 1) := by decide +kernel
theorem dL_law_1016 : decode cL_law 1016 = .ok (.iadd, 1) := by decide +kernel
theorem dL_law_1017 : decode cL_law 1017 = .ok (.iaload, 1) := by decide +kernel
theorem dL_law_1018 : decode cL_law 1018 = .ok (.invokevirtual 129, 3) := by decide +kernel
theorem dL_law_1021 : decode cL_law 1021 = .ok (.aload_n 2, 1) := by decide +kernel
theorem dL_law_1022 : decode cL_law 1022 = .ok (.aload_n 0, 1) := by decide +kernel
theorem dL_law_1023 : decode cL_law 1023 = .ok (.iload_n 3, 1) := by decide +kernel
theorem dL_law_1024 : decode cL_law 1024 = .ok (.iconst 1, 1) := by decide +kernel
theorem dL_law_1025 : decode cL_law 1025 = .ok (.iadd, 1) := by decide +kernel
theorem dL_law_1026 : decode cL_law 1026 = .ok (.iaload, 1) := by decide +kernel
theorem dL_law_1027 : decode cL_law 1027 = .ok (.aload_n 0, 1) := by decide +kernel
theorem dL_law_1028 : decode cL_law 1028 = .ok (.iload_n 3, 1) := by decide +kernel
theorem dL_law_1029 : decode cL_law 1029 = .ok (.iconst 2, 1) := by decide +kernel
theorem dL_law_1030 : decode cL_law 1030 = .ok (.iadd, 1) := by decide +kernel
theorem dL_law_1031 : decode cL_law 1031 = .ok (.iaload, 1) := by decide +kernel
theorem dL_law_1032 : decode cL_law 1032 = .ok (.invokevirtual 132, 3) := by decide +kernel
theorem dL_law_1035 : decode cL_law 1035 = .ok (.if_icmp .eq 300, 3) := by decide +kernel
theorem dL_law_1038 : decode cL_law 1038 = .ok (.iconst 0, 1) := by decide +kernel
theorem dL_law_1039 : decode cL_law 1039 = .ok (.ireturn, 1) := by decide +kernel
theorem dL_law_1040 : decode cL_law 1040 = .ok (.aload_n 1, 1) := by decide +kernel
theorem dL_law_1041 : decode cL_law 1041 = .ok (.invokevirtual 133, 3) := by decide +kernel
theorem dL_law_1044 : decode cL_law 1044 = .ok (.aload_n 2, 1) := by decide +kernel
theorem dL_law_1045 : decode cL_law 1045 = .ok (.invokevirtual 136, 3) := by decide +kernel
theorem dL_law_1048 : decode cL_law 1048 = .ok (.if_icmp .eq 287, 3) := by decide +kernel
theorem dL_law_1051 : decode cL_law 1051 = .ok (.iconst 0, 1) := by decide +kernel
theorem dL_law_1052 : decode cL_law 1052 = .ok (.ireturn, 1) := by decide +kernel
theorem dL_law_1053 : decode cL_law 1053 = .ok (.aload_n 1, 1) := by decide +kernel
theorem dL_law_1054 : decode cL_law 1054 = .ok (.invokevirtual 137, 3) := by decide +kernel
theorem dL_law_1057 : decode cL_law 1057 = .ok (.aload_n 2, 1) := by decide +kernel
theorem dL_law_1058 : decode cL_law 1058 = .ok (.invokevirtual 140, 3) := by decide +kernel
theorem dL_law_1061 : decode cL_law 1061 = .ok (.if_icmp .eq 274, 3) := by decide +kernel
theorem dL_law_1064 : decode cL_law 1064 = .ok (.iconst 0, 1) := by decide +kernel
theorem dL_law_1065 : decode cL_law 1065 = .ok (.ireturn, 1) := by decide +kernel
theorem dL_law_1066 : decode cL_law 1066 = .ok (.aload_n 1, 1) := by decide +kernel
theorem dL_law_1067 : decode cL_law 1067 = .ok (.aload_n 0, 1) := by decide +kernel
theorem dL_law_1068 : decode cL_law 1068 = .ok (.iload_n 3, 1) := by decide +kernel
theorem dL_law_1069 : decode cL_law 1069 = .ok (.iconst 1, 1) := by decide +kernel
theorem dL_law_1070 : decode cL_law 1070 = .ok (.iadd, 1) := by decide +kernel
theorem dL_law_1071 : decode cL_law 1071 = .ok (.iaload, 1) := by decide +kernel
theorem dL_law_1072 : decode cL_law 1072 = .ok (.aload_n 0, 1) := by decide +kernel
theorem dL_law_1073 : decode cL_law 1073 = .ok (.iload_n 3, 1) := by decide +kernel
theorem dL_law_1074 : decode cL_law 1074 = .ok (.iconst 2, 1) := by decide +kernel
theorem dL_law_1075 : decode cL_law 1075 = .ok (.iadd, 1) := by decide +kernel
theorem dL_law_1076 : decode cL_law 1076 = .ok (.iaload, 1) := by decide +kernel
theorem dL_law_1077 : decode cL_law 1077 = .ok (.invokevirtual 141, 3) := by decide +kernel
theorem dL_law_1080 : decode cL_law 1080 = .ok (.aload_n 2, 1) := by decide +kernel
theorem dL_law_1081 : decode cL_law 1081 = .ok (.aload_n 0, 1) := by decide +kernel
theorem dL_law_1082 : decode cL_law 1082 = .ok (.iload_n 3, 1) := by decide +kernel
theorem dL_law_1083 : decode cL_law 1083 = .ok (.iconst 1, 1) := by decide +kernel
theorem dL_law_1084 : decode cL_law 1084 = .ok (.iadd, 1) := by decide +kernel
theorem dL_law_1085 : decode cL_law 1085 = .ok (.iaload, 1) := by decide +kernel
theorem dL_law_1086 : decode cL_law 1086 = .ok (.aload_n 0, 1) := by decide +kernel
theorem dL_law_1087 : decode cL_law 1087 = .ok (.iload_n 3, 1) := by decide +kernel
theorem dL_law_1088 : decode cL_law 1088 = .ok (.iconst 2, 1) := by decide +kernel
theorem dL_law_1089 : decode cL_law 1089 = .ok (.iadd, 1) := by decide +kernel
theorem dL_law_1090 : decode cL_law 1090 = .ok (.iaload, 1) := by decide +kernel
theorem dL_law_1091 : decode cL_law 1091 = .ok (.invokevirtual 144, 3) := by decide +kernel
theorem dL_law_1094 : decode cL_law 1094 = .ok (.if_icmp .eq 241, 3) := by decide +kernel
theorem dL_law_1097 : decode cL_law 1097 = .ok (.iconst 0, 1) := by decide +kernel
theorem dL_law_1098 : decode cL_law 1098 = .ok (.ireturn, 1) := by decide +kernel
theorem dL_law_1099 : decode cL_law 1099 = .ok (.aload_n 1, 1) := by decide +kernel
theorem dL_law_1100 : decode cL_law 1100 = .ok (.aload_n 0, 1) := by decide +kernel
theorem dL_law_1101 : decode cL_law 1101 = .ok (.iload_n 3, 1) := by decide +kernel
theorem dL_law_1102 : decode cL_law 1102 = .ok (.iconst 1, 1) := by decide +kernel
theorem dL_law_1103 : decode cL_law 1103 = .ok (.iadd, 1) := by decide +kernel
theorem dL_law_1104 : decode cL_law 1104 = .ok (.iaload, 1) := by decide +kernel
theorem dL_law_1105 : decode cL_law 1105 = .ok (.invokevirtual 145, 3) := by decide +kernel
theorem dL_law_1108 : decode cL_law 1108 = .ok (.aload_n 2, 1) := by decide +kernel
theorem dL_law_1109 : decode cL_law 1109 = .ok (.aload_n 0, 1) := by decide +kernel
theorem dL_law_1110 : decode cL_law 1110 = .ok (.iload_n 3, 1) := by decide +kernel
theorem dL_law_1111 : decode cL_law 1111 = .ok (.iconst 1, 1) := by decide +kernel
theorem dL_law_1112 : decode cL_law 1112 = .ok (.iadd, 1) := by decide +kernel
theorem dL_law_1113 : decode cL_law 1113 = .ok (.iaload, 1) := by decide +kernel
theorem dL_law_1114 : decode cL_law 1114 = .ok (.invokevirtual 148, 3) := by decide +kernel
theorem dL_law_1117 : decode cL_law 1117 = .ok (.if_icmp .eq 218, 3) := by decide +kernel
theorem dL_law_1120 : decode cL_law 1120 = .ok (.iconst 0, 1) := by decide +kernel
theorem dL_law_1121 : decode cL_law 1121 = .ok (.ireturn, 1) := by decide +kernel
theorem dL_law_1122 : decode cL_law 1122 = .ok (.aload_n 1, 1) := by decide +kernel
theorem dL_law_1123 : decode cL_law 1123 = .ok (.aload_n 0, 1) := by decide +kernel
theorem dL_law_1124 : decode cL_law 1124 = .ok (.iload_n 3, 1) := by decide +kernel
theorem dL_law_1125 : decode cL_law 1125 = .ok (.iconst 1, 1) := by decide +kernel
theorem dL_law_1126 : decode cL_law 1126 = .ok (.iadd, 1) := by decide +kernel
theorem dL_law_1127 : decode cL_law 1127 = .ok (.iaload, 1) := by decide +kernel
theorem dL_law_1128 : decode cL_law 1128 = .ok (.aload_n 0, 1) := by decide +kernel
theorem dL_law_1129 : decode cL_law 1129 = .ok (.iload_n 3, 1) := by decide +kernel
theorem dL_law_1130 : decode cL_law 1130 = .ok (.iconst 2, 1) := by decide +kernel
theorem dL_law_1131 : decode cL_law 1131 = .ok (.iadd, 1) := by decide +kernel
theorem dL_law_1132 : decode cL_law 1132 = .ok (.iaload, 1) := by decide +kernel
theorem dL_law_1133 : decode cL_law 1133 = .ok (.aload_n 0, 1) := by decide +kernel
theorem dL_law_1134 : decode cL_law 1134 = .ok (.iload_n 3, 1) := by decide +kernel
theorem dL_law_1135 : decode cL_law 1135 = .ok (.iconst 3, 1) := by decide +kernel
theorem dL_law_1136 : decode cL_law 1136 = .ok (.iadd, 1) := by decide +kernel
theorem dL_law_1137 : decode cL_law 1137 = .ok (.iaload, 1) := by decide +kernel
theorem dL_law_1138 : decode cL_law 1138 = .ok (.invokevirtual 149, 3) := by decide +kernel
theorem dL_law_1141 : decode cL_law 1141 = .ok (.aload_n 2, 1) := by decide +kernel
theorem dL_law_1142 : decode cL_law 1142 = .ok (.aload_n 0, 1) := by decide +kernel
theorem dL_law_1143 : decode cL_law 1143 = .ok (.iload_n 3, 1) := by decide +kernel
theorem dL_law_1144 : decode cL_law 1144 = .ok (.iconst 1, 1) := by decide +kernel
theorem dL_law_1145 : decode cL_law 1145 = .ok (.iadd, 1) := by decide +kernel
theorem dL_law_1146 : decode cL_law 1146 = .ok (.iaload, 1) := by decide +kernel
theorem dL_law_1147 : decode cL_law 1147 = .ok (.aload_n 0, 1) := by decide +kernel
theorem dL_law_1148 : decode cL_law 1148 = .ok (.iload_n 3, 1) := by decide +kernel
theorem dL_law_1149 : decode cL_law 1149 = .ok (.iconst 2, 1) := by decide +kernel
theorem dL_law_1150 : decode cL_law 1150 = .ok (.iadd, 1) := by decide +kernel
theorem dL_law_1151 : decode cL_law 1151 = .ok (.iaload, 1) := by decide +kernel
theorem dL_law_1152 : decode cL_law 1152 = .ok (.aload_n 0, 1) := by decide +kernel
theorem dL_law_1153 : decode cL_law 1153 = .ok (.iload_n 3, 1) := by decide +kernel
theorem dL_law_1154 : decode cL_law 1154 = .ok (.iconst 3, 1) := by decide +kernel
theorem dL_law_1155 : decode cL_law 1155 = .ok (.iadd, 1) := by decide +kernel
theorem dL_law_1156 : decode cL_law 1156 = .ok (.iaload, 1) := by decide +kernel
theorem dL_law_1157 : decode cL_law 1157 = .ok (.invokevirtual 152, 3) := by decide +kernel
theorem dL_law_1160 : decode cL_law 1160 = .ok (.if_icmp .eq 175, 3) := by decide +kernel
theorem dL_law_1163 : decode cL_law 1163 = .ok (.iconst 0, 1) := by decide +kernel
theorem dL_law_1164 : decode cL_law 1164 = .ok (.ireturn, 1) := by decide +kernel
theorem dL_law_1165 : decode cL_law 1165 = .ok (.aload_n 1, 1) := by decide +kernel
theorem dL_law_1166 : decode cL_law 1166 = .ok (.aload_n 0, 1) := by decide +kernel
theorem dL_law_1167 : decode cL_law 1167 = .ok (.iload_n 3, 1) := by decide +kernel
theorem dL_law_1168 : decode cL_law 1168 = .ok (.iconst 1, 1) := by decide +kernel
theorem dL_law_1169 : decode cL_law 1169 = .ok (.iadd, 1) := by decide +kernel
theorem dL_law_1170 : decode cL_law 1170 = .ok (.iaload, 1) := by decide +kernel
theorem dL_law_1171 : decode cL_law 1171 = .ok (.aload_n 0, 1) := by decide +kernel
theorem dL_law_1172 : decode cL_law 1172 = .ok (.iload_n 3, 1) := by decide +kernel
theorem dL_law_1173 : decode cL_law 1173 = .ok (.iconst 2, 1) := by decide +kernel
theorem dL_law_1174 : decode cL_law 1174 = .ok (.iadd, 1) := by decide +kernel
theorem dL_law_1175 : decode cL_law 1175 = .ok (.iaload, 1) := by decide +kernel
theorem dL_law_1176 : decode cL_law 1176 = .ok (.aload_n 0, 1) := by decide +kernel
theorem dL_law_1177 : decode cL_law 1177 = .ok (.iload_n 3, 1) := by decide +kernel
theorem dL_law_1178 : decode cL_law 1178 = .ok (.iconst 3, 1) := by decide +kernel
theorem dL_law_1179 : decode cL_law 1179 = .ok (.iadd, 1) := by decide +kernel
theorem dL_law_1180 : decode cL_law 1180 = .ok (.iaload, 1) := by decide +kernel
theorem dL_law_1181 : decode cL_law 1181 = .ok (.i2l, 1) := by decide +kernel
theorem dL_law_1182 : decode cL_law 1182 = .ok (.bipush 32, 2) := by decide +kernel
theorem dL_law_1184 : decode cL_law 1184 = .ok (.lshl, 1) := by decide +kernel
theorem dL_law_1185 : decode cL_law 1185 = .ok (.aload_n 0, 1) := by decide +kernel
theorem dL_law_1186 : decode cL_law 1186 = .ok (.iload_n 3, 1) := by decide +kernel
theorem dL_law_1187 : decode cL_law 1187 = .ok (.iconst 4, 1) := by decide +kernel
theorem dL_law_1188 : decode cL_law 1188 = .ok (.iadd, 1) := by decide +kernel
theorem dL_law_1189 : decode cL_law 1189 = .ok (.iaload, 1) := by decide +kernel
theorem dL_law_1190 : decode cL_law 1190 = .ok (.i2l, 1) := by decide +kernel
theorem dL_law_1191 : decode cL_law 1191 = .ok (.ldc2_w 153, 3) := by decide +kernel
theorem dL_law_1194 : decode cL_law 1194 = .ok (.land, 1) := by decide +kernel
theorem dL_law_1195 : decode cL_law 1195 = .ok (.lor, 1) := by decide +kernel
theorem dL_law_1196 : decode cL_law 1196 = .ok (.invokevirtual 155, 3) := by decide +kernel
theorem dL_law_1199 : decode cL_law 1199 = .ok (.aload_n 2, 1) := by decide +kernel
theorem dL_law_1200 : decode cL_law 1200 = .ok (.aload_n 0, 1) := by decide +kernel
theorem dL_law_1201 : decode cL_law 1201 = .ok (.iload_n 3, 1) := by decide +kernel
theorem dL_law_1202 : decode cL_law 1202 = .ok (.iconst 1, 1) := by decide +kernel
theorem dL_law_1203 : decode cL_law 1203 = .ok (.iadd, 1) := by decide +kernel
theorem dL_law_1204 : decode cL_law 1204 = .ok (.iaload, 1) := by decide +kernel
theorem dL_law_1205 : decode cL_law 1205 = .ok (.aload_n 0, 1) := by decide +kernel
theorem dL_law_1206 : decode cL_law 1206 = .ok (.iload_n 3, 1) := by decide +kernel
theorem dL_law_1207 : decode cL_law 1207 = .ok (.iconst 2, 1) := by decide +kernel
theorem dL_law_1208 : decode cL_law 1208 = .ok (.iadd, 1) := by decide +kernel
theorem dL_law_1209 : decode cL_law 1209 = .ok (.iaload, 1) := by decide +kernel
theorem dL_law_1210 : decode cL_law 1210 = .ok (.aload_n 0, 1) := by decide +kernel
theorem dL_law_1211 : decode cL_law 1211 = .ok (.iload_n 3, 1) := by decide +kernel
theorem dL_law_1212 : decode cL_law 1212 = .ok (.iconst 3, 1) := by decide +kernel
theorem dL_law_1213 : decode cL_law 1213 = .ok (.iadd, 1) := by decide +kernel
theorem dL_law_1214 : decode cL_law 1214 = .ok (.iaload, 1) := by decide +kernel
theorem dL_law_1215 : decode cL_law 1215 = .ok (.i2l, 1) := by decide +kernel
theorem dL_law_1216 : decode cL_law 1216 = .ok (.bipush 32, 2) := by decide +kernel
theorem dL_law_1218 : decode cL_law 1218 = .ok (.lshl, 1) := by decide +kernel
theorem dL_law_1219 : decode cL_law 1219 = .ok (.aload_n 0, 1) := by decide +kernel
theorem dL_law_1220 : decode cL_law 1220 = .ok (.iload_n 3, 1) := by decide +kernel
theorem dL_law_1221 : decode cL_law 1221 = .ok (.iconst 4, 1) := by decide +kernel
theorem dL_law_1222 : decode cL_law 1222 = .ok (.iadd, 1) := by decide +kernel
theorem dL_law_1223 : decode cL_law 1223 = .ok (.iaload, 1) := by decide +kernel
theorem dL_law_1224 : decode cL_law 1224 = .ok (.i2l, 1) := by decide +kernel
theorem dL_law_1225 : decode cL_law 1225 = .ok (.ldc2_w 153, 3) := by decide +kernel
theorem dL_law_1228 : decode cL_law 1228 = .ok (.land, 1) := by decide +kernel
theorem dL_law_1229 : decode cL_law 1229 = .ok (.lor, 1) := by decide +kernel
theorem dL_law_1230 : decode cL_law 1230 = .ok (.invokevirtual 159, 3) := by decide +kernel
theorem dL_law_1233 : decode cL_law 1233 = .ok (.if_icmp .eq 102, 3) := by decide +kernel
theorem dL_law_1236 : decode cL_law 1236 = .ok (.iconst 0, 1) := by decide +kernel
theorem dL_law_1237 : decode cL_law 1237 = .ok (.ireturn, 1) := by decide +kernel
theorem dL_law_1238 : decode cL_law 1238 = .ok (.aload_n 1, 1) := by decide +kernel
theorem dL_law_1239 : decode cL_law 1239 = .ok (.aload_n 0, 1) := by decide +kernel
theorem dL_law_1240 : decode cL_law 1240 = .ok (.iload_n 3, 1) := by decide +kernel
theorem dL_law_1241 : decode cL_law 1241 = .ok (.iconst 1, 1) := by decide +kernel
theorem dL_law_1242 : decode cL_law 1242 = .ok (.iadd, 1) := by decide +kernel
theorem dL_law_1243 : decode cL_law 1243 = .ok (.iaload, 1) := by decide +kernel
theorem dL_law_1244 : decode cL_law 1244 = .ok (.aload_n 0, 1) := by decide +kernel
theorem dL_law_1245 : decode cL_law 1245 = .ok (.iload_n 3, 1) := by decide +kernel
theorem dL_law_1246 : decode cL_law 1246 = .ok (.iconst 2, 1) := by decide +kernel
theorem dL_law_1247 : decode cL_law 1247 = .ok (.iadd, 1) := by decide +kernel
theorem dL_law_1248 : decode cL_law 1248 = .ok (.iaload, 1) := by decide +kernel
theorem dL_law_1249 : decode cL_law 1249 = .ok (.invokevirtual 160, 3) := by decide +kernel
theorem dL_law_1252 : decode cL_law 1252 = .ok (.aload_n 2, 1) := by decide +kernel
theorem dL_law_1253 : decode cL_law 1253 = .ok (.aload_n 0, 1) := by decide +kernel
theorem dL_law_1254 : decode cL_law 1254 = .ok (.iload_n 3, 1) := by decide +kernel
theorem dL_law_1255 : decode cL_law 1255 = .ok (.iconst 1, 1) := by decide +kernel
theorem dL_law_1256 : decode cL_law 1256 = .ok (.iadd, 1) := by decide +kernel
theorem dL_law_1257 : decode cL_law 1257 = .ok (.iaload, 1) := by decide +kernel
theorem dL_law_1258 : decode cL_law 1258 = .ok (.aload_n 0, 1) := by decide +kernel
theorem dL_law_1259 : decode cL_law 1259 = .ok (.iload_n 3, 1) := by decide +kernel
theorem dL_law_1260 : decode cL_law 1260 = .ok (.iconst 2, 1) := by decide +kernel
theorem dL_law_1261 : decode cL_law 1261 = .ok (.iadd, 1) := by decide +kernel
theorem dL_law_1262 : decode cL_law 1262 = .ok (.iaload, 1) := by decide +kernel
theorem dL_law_1263 : decode cL_law 1263 = .ok (.invokevirtual 163, 3) := by decide +kernel
theorem dL_law_1266 : decode cL_law 1266 = .ok (.lcmp, 1) := by decide +kernel
theorem dL_law_1267 : decode cL_law 1267 = .ok (.ifCond .eq 68, 3) := by decide +kernel
theorem dL_law_1270 : decode cL_law 1270 = .ok (.iconst 0, 1) := by decide +kernel
theorem dL_law_1271 : decode cL_law 1271 = .ok (.ireturn, 1) := by decide +kernel
theorem dL_law_1272 : decode cL_law 1272 = .ok (.aload_n 1, 1) := by decide +kernel
theorem dL_law_1273 : decode cL_law 1273 = .ok (.aload_n 0, 1) := by decide +kernel
theorem dL_law_1274 : decode cL_law 1274 = .ok (.iload_n 3, 1) := by decide +kernel
theorem dL_law_1275 : decode cL_law 1275 = .ok (.iconst 1, 1) := by decide +kernel
theorem dL_law_1276 : decode cL_law 1276 = .ok (.iadd, 1) := by decide +kernel
theorem dL_law_1277 : decode cL_law 1277 = .ok (.iaload, 1) := by decide +kernel
theorem dL_law_1278 : decode cL_law 1278 = .ok (.aload_n 0, 1) := by decide +kernel
theorem dL_law_1279 : decode cL_law 1279 = .ok (.iload_n 3, 1) := by decide +kernel
theorem dL_law_1280 : decode cL_law 1280 = .ok (.iconst 2, 1) := by decide +kernel
theorem dL_law_1281 : decode cL_law 1281 = .ok (.iadd, 1) := by decide +kernel
theorem dL_law_1282 : decode cL_law 1282 = .ok (.iaload, 1) := by decide +kernel
theorem dL_law_1283 : decode cL_law 1283 = .ok (.aload_n 0, 1) := by decide +kernel
theorem dL_law_1284 : decode cL_law 1284 = .ok (.iload_n 3, 1) := by decide +kernel
theorem dL_law_1285 : decode cL_law 1285 = .ok (.iconst 3, 1) := by decide +kernel
theorem dL_law_1286 : decode cL_law 1286 = .ok (.iadd, 1) := by decide +kernel
theorem dL_law_1287 : decode cL_law 1287 = .ok (.iaload, 1) := by decide +kernel
theorem dL_law_1288 : decode cL_law 1288 = .ok (.aload_n 0, 1) := by decide +kernel
theorem dL_law_1289 : decode cL_law 1289 = .ok (.iload_n 3, 1) := by decide +kernel
theorem dL_law_1290 : decode cL_law 1290 = .ok (.iconst 4, 1) := by decide +kernel
theorem dL_law_1291 : decode cL_law 1291 = .ok (.iadd, 1) := by decide +kernel
theorem dL_law_1292 : decode cL_law 1292 = .ok (.iaload, 1) := by decide +kernel
theorem dL_law_1293 : decode cL_law 1293 = .ok (.aload_n 0, 1) := by decide +kernel
theorem dL_law_1294 : decode cL_law 1294 = .ok (.iload_n 3, 1) := by decide +kernel
theorem dL_law_1295 : decode cL_law 1295 = .ok (.iconst 5, 1) := by decide +kernel
theorem dL_law_1296 : decode cL_law 1296 = .ok (.iadd, 1) := by decide +kernel
theorem dL_law_1297 : decode cL_law 1297 = .ok (.iaload, 1) := by decide +kernel
theorem dL_law_1298 : decode cL_law 1298 = .ok (.invokevirtual 164, 3) := by decide +kernel
theorem dL_law_1301 : decode cL_law 1301 = .ok (.aload_n 2, 1) := by decide +kernel
theorem dL_law_1302 : decode cL_law 1302 = .ok (.aload_n 0, 1) := by decide +kernel
theorem dL_law_1303 : decode cL_law 1303 = .ok (.iload_n 3, 1) := by decide +kernel
theorem dL_law_1304 : decode cL_law 1304 = .ok (.iconst 1, 1) := by decide +kernel
theorem dL_law_1305 : decode cL_law 1305 = .ok (.iadd, 1) := by decide +kernel
theorem dL_law_1306 : decode cL_law 1306 = .ok (.iaload, 1) := by decide +kernel
theorem dL_law_1307 : decode cL_law 1307 = .ok (.aload_n 0, 1) := by decide +kernel
theorem dL_law_1308 : decode cL_law 1308 = .ok (.iload_n 3, 1) := by decide +kernel
theorem dL_law_1309 : decode cL_law 1309 = .ok (.iconst 2, 1) := by decide +kernel
theorem dL_law_1310 : decode cL_law 1310 = .ok (.iadd, 1) := by decide +kernel
theorem dL_law_1311 : decode cL_law 1311 = .ok (.iaload, 1) := by decide +kernel
theorem dL_law_1312 : decode cL_law 1312 = .ok (.aload_n 0, 1) := by decide +kernel
theorem dL_law_1313 : decode cL_law 1313 = .ok (.iload_n 3, 1) := by decide +kernel
theorem dL_law_1314 : decode cL_law 1314 = .ok (.iconst 3, 1) := by decide +kernel
theorem dL_law_1315 : decode cL_law 1315 = .ok (.iadd, 1) := by decide +kernel
theorem dL_law_1316 : decode cL_law 1316 = .ok (.iaload, 1) := by decide +kernel
theorem dL_law_1317 : decode cL_law 1317 = .ok (.aload_n 0, 1) := by decide +kernel
theorem dL_law_1318 : decode cL_law 1318 = .ok (.iload_n 3, 1) := by decide +kernel
theorem dL_law_1319 : decode cL_law 1319 = .ok (.iconst 4, 1) := by decide +kernel
theorem dL_law_1320 : decode cL_law 1320 = .ok (.iadd, 1) := by decide +kernel
theorem dL_law_1321 : decode cL_law 1321 = .ok (.iaload, 1) := by decide +kernel
theorem dL_law_1322 : decode cL_law 1322 = .ok (.aload_n 0, 1) := by decide +kernel
theorem dL_law_1323 : decode cL_law 1323 = .ok (.iload_n 3, 1) := by decide +kernel
theorem dL_law_1324 : decode cL_law 1324 = .ok (.iconst 5, 1) := by decide +kernel
theorem dL_law_1325 : decode cL_law 1325 = .ok (.iadd, 1) := by decide +kernel
theorem dL_law_1326 : decode cL_law 1326 = .ok (.iaload, 1) := by decide +kernel
theorem dL_law_1327 : decode cL_law 1327 = .ok (.invokevirtual 168, 3) := by decide +kernel
theorem dL_law_1330 : decode cL_law 1330 = .ok (.if_icmp .eq 5, 3) := by decide +kernel
theorem dL_law_1333 : decode cL_law 1333 = .ok (.iconst 0, 1) := by decide +kernel
theorem dL_law_1334 : decode cL_law 1334 = .ok (.ireturn, 1) := by decide +kernel
theorem dL_law_1335 : decode cL_law 1335 = .ok (.iinc 3 6, 3) := by decide +kernel
theorem dL_law_1338 : decode cL_law 1338 = .ok (.goto (-1320), 3) := by decide +kernel
theorem dL_law_1341 : decode cL_law 1341 = .ok (.iconst 1, 1) := by decide +kernel
theorem dL_law_1342 : decode cL_law 1342 = .ok (.ireturn, 1) := by decide +kernel
end
section
/-- the tables' words that hold at every call -/
def zTb : List Cond := lw_tbl.filter goodWord
theorem zmem {w : Cond} (i : Nat) (h : lw_tbl[i]? = some w) (g : goodWord w = true) : w ∈ zTb := List.mem_filter.mpr ⟨List.mem_of_getElem? h, g⟩
theorem zall : ∀ w ∈ zTb, goodWord w = true := fun _ h => (List.mem_filter.mp h).2
def zNs : List (String × Nat × MethodName × String) := [("ReversedLinks", 11, ⟨"ReversedLinks$State", "<init>", "()V"⟩, "ReversedLinks"), ("ReversedLinks", 34, ⟨"ReversedLinks$Marking", "<init>", "()V"⟩, "ReversedLinks"), ("ReversedLinks", 41, ⟨"ReversedLinks$Links", "<init>", "()V"⟩, "ReversedLinks"), ("ReversedLinks", 48, ⟨"ReversedLinks$Text", "<init>", "()V"⟩, "ReversedLinks"), ("ReversedLinks$Graph", 49, ⟨"ReversedLinks", "bit", "(I)I"⟩, "ReversedLinks"), ("ReversedLinks$Graph", 57, ⟨"ReversedLinks", "has", "(II)Z"⟩, "ReversedLinks"), ("ReversedLinks$Graph", 68, ⟨"ReversedLinks", "isRoot", "(I)Z"⟩, "ReversedLinks"), ("ReversedLinks$Graph", 71, ⟨"ReversedLinks", "isFollowed", "(III)Z"⟩, "ReversedLinks"), ("ReversedLinks$Graph", 85, ⟨"ReversedLinks", "asNumber", "(Z)I"⟩, "ReversedLinks"), ("ReversedLinks$Links", 29, ⟨"ReversedLinks", "firstOf", "(I)I"⟩, "ReversedLinks"), ("ReversedLinks$Links", 33, ⟨"ReversedLinks", "bit", "(I)I"⟩, "ReversedLinks"), ("ReversedLinks$Links", 42, ⟨"ReversedLinks", "has", "(II)Z"⟩, "ReversedLinks"), ("ReversedLinks$Marking", 87, ⟨"ReversedLinks", "has", "(II)Z"⟩, "ReversedLinks"), ("ReversedLinks$Marking", 95, ⟨"ReversedLinks", "firstOf", "(I)I"⟩, "ReversedLinks"), ("ReversedLinks$Marking", 98, ⟨"ReversedLinks", "bit", "(I)I"⟩, "ReversedLinks"), ("ReversedLinks$State", 18, ⟨"ReversedLinks$Marking", "<init>", "()V"⟩, "ReversedLinks"), ("ReversedLinks$State", 25, ⟨"ReversedLinks$Sheet", "<init>", "()V"⟩, "ReversedLinks"), ("ReversedLinks$Tapes", 28, ⟨"ReversedLinks", "isTape", "(I)Z"⟩, "ReversedLinks"), ("ReversedLinks$Text", 69, ⟨"ReversedLinks", "has", "(II)Z"⟩, "ReversedLinks"), ("ReversedLinks$Text", 73, ⟨"ReversedLinks", "fieldsOf", "(II)I"⟩, "ReversedLinks")]
def zN (U : State) : Prop := ∀ q ∈ zNs, va_Nw (.methodLinkNest q.1 q.2.1 q.2.2.1 q.2.2.2) U
/-! the state of the two worlds as plain functions: what each field and each place of each array holds, by the number of the cell -/
abbrev zkS : Type := (Nat → Nat → Int32) × (Nat → Int64)
def zsi (σ : zkS) (a k : Nat) (v : Int32) : zkS := (fun a' k' => if a' = a ∧ k' = k then v else σ.1 a' k', σ.2)
def zsl (σ : zkS) (k : Nat) (v : Int64) : zkS := (σ.1, fun k' => if k' = k then v else σ.2 k')
def zcI (σ : zkS) (a b sp dp n : Nat) : zkS := (fun a' k' => if a' = b then va_cpy (σ.1 a) (σ.1 b) sp dp n k' else σ.1 a' k', σ.2)
def zcL (σ : zkS) (sp dp n : Nat) : zkS := (σ.1, va_cpy σ.2 σ.2 sp dp n)
def zkdA : List Nat := [7, 4, 0, 9, 9, 9, 9, 9, 2, 9, 9, 3, 9, 3, 9, 3, 9, 4, 0, 9, 9, 9, 9, 9, 2, 9, 9, 3, 9, 3, 9, 3, 9, 0, 9, 9, 9, 9, 9, 2, 9, 9, 1, 9, 6, 9, 9, 9, 9, 5, 9, 9, 10]
def zkdB : List Nat := [8, 9, 9, 9, 9, 9, 9, 9, 9, 9, 9, 9, 9, 9, 10]
def zkd (u a : Nat) : Nat := (if u = 0 then zkdA else zkdB).getD a 11
def zlnA : List Nat := [0, 0, 0, 24, 24, 24, 144, 4, 0, 24, 24, 0, 30, 0, 30, 0, 30, 0, 0, 24, 24, 24, 144, 4, 0, 24, 24, 0, 30, 0, 30, 0, 30, 0, 24, 24, 24, 144, 4, 0, 24, 24, 0, 24, 0, 100, 6, 6, 6, 0, 6, 6, 360]
def zlnB : List Nat := [0, 346, 346, 346, 100, 8, 8, 8, 101, 101, 101, 606, 6, 6, 360]
def zln (u a : Nat) : Nat := (if u = 0 then zlnA else zlnB).getD a 0
def zsz (u : Nat) : Nat := if u = 0 then 53 else 15
def znf (ci : Nat) : Nat := [8, 2, 15, 2, 5, 3, 9, 8, 20].getD ci 0
def zof (ci k : Nat) : Nat := ([[0, 0, 0, 1, 2, 3, 4, 5], [1, 0], [0, 0, 0, 0, 0, 0, 0, 0, 0, 0, 0, 0, 0, 1, 2], [0, 1], [1, 7, 10, 12, 14], [1, 2, 3], [0, 0, 0, 1, 2, 3, 4, 0, 0], [1, 17, 0, 33, 39, 42, 44, 49], [1, 2, 3, 0, 4, 0, 5, 6, 7, 8, 9, 10, 11, 0, 0, 0, 0, 12, 13, 14]].getD ci []).getD k 0
def zfv (ci : Nat) (adr : Nat → Nat) (σ : zkS) (a k : Nat) : Value := if zof ci k = 0 then .int (σ.1 a k) else .ref (adr (a + zof ci k))
def zob (ci : Nat) (adr : Nat → Nat) (σ : zkS) (a : Nat) : List Value := (List.range (znf ci)).map (zfv ci adr σ a)
def zcn (u : Nat) (cI cJ : ClassId) (adr : Nat → Nat) (σ : zkS) (a : Nat) : va_E := if zkd u a = 9 then .inl (cI, zln u a, .inl (σ.1 a)) else if zkd u a = 10 then .inl (cJ, zln u a, .inr (.inl σ.2)) else .inr (zkd u a, zob (zkd u a) adr σ a)
def zW (u : Nat) (cI cJ : ClassId) (adr : Nat → Nat) (σ : zkS) : va_W := (List.range (zsz u)).map (fun a => (adr a, zcn u cI cJ adr σ a))
theorem zW_at {u : Nat} {cI cJ : ClassId} {adr : Nat → Nat} {σ : zkS} {a : Nat} (ha : a < zsz u) : (zW u cI cJ adr σ)[a]? = some (adr a, zcn u cI cJ adr σ a) := by
  unfold zW
  rw [List.getElem?_map, List.getElem?_range ha]
  rfl
theorem zW_inv {u : Nat} {cI cJ : ClassId} {adr : Nat → Nat} {σ : zkS} {a : Nat} {q : Nat × va_E} (h : (zW u cI cJ adr σ)[a]? = some q) : a < zsz u ∧ q.1 = adr a := by
  have hl : a < (zW u cI cJ adr σ).length := (List.getElem?_eq_some_iff.mp h).1
  have ha : a < zsz u := by simpa [zW] using hl
  rw [zW_at ha] at h
  exact ⟨ha, (congrArg Prod.fst (Option.some.inj h)).symm⟩
theorem zW_ob {u : Nat} {cI cJ : ClassId} {adr : Nat → Nat} {σ : zkS} {a ci : Nat} (ha : a < zsz u) (hk : zkd u a = ci) (h9 : ci < 9) : (zW u cI cJ adr σ)[a]? = some (adr a, .inr (ci, zob ci adr σ a)) := by
  rw [zW_at ha, zcn, if_neg (by omega), if_neg (by omega), hk]
theorem zW_ar {u : Nat} {cI cJ : ClassId} {adr : Nat → Nat} {σ : zkS} {a n : Nat} (ha : a < zsz u) (hk : zkd u a = 9) (hn : zln u a = n) : (zW u cI cJ adr σ)[a]? = some (adr a, .inl (cI, n, .inl (σ.1 a))) := by
  rw [zW_at ha, zcn, if_pos hk, hn]
theorem zW_aj {u : Nat} {cI cJ : ClassId} {adr : Nat → Nat} {σ : zkS} {a n : Nat} (ha : a < zsz u) (hk : zkd u a = 10) (hn : zln u a = n) : (zW u cI cJ adr σ)[a]? = some (adr a, .inl (cJ, n, .inr (.inl σ.2))) := by
  rw [zW_at ha, zcn, if_neg (by omega), if_pos hk, hn]
theorem zW_set {u : Nat} {cI cJ : ClassId} {adr : Nat → Nat} {σ σ' : zkS} {a : Nat} {e : va_E} (h : ∀ i, i < zsz u → i ≠ a → zcn u cI cJ adr σ' i = zcn u cI cJ adr σ i) (he : zcn u cI cJ adr σ' a = e) : (zW u cI cJ adr σ).set a (adr a, e) = zW u cI cJ adr σ' := by
  apply List.ext_getElem?
  intro i
  by_cases hi : i < zsz u
  · rw [zW_at hi, List.getElem?_set]
    by_cases hia : a = i
    · subst hia
      rw [if_pos rfl, if_pos (by simpa [zW] using hi), he]
    · rw [if_neg hia, zW_at hi, h i hi (fun q => hia q.symm)]
  · rw [List.getElem?_eq_none (by simp [zW]; omega), List.getElem?_eq_none (by simp [zW]; omega)]
theorem zcn_ext {u : Nat} {cI cJ : ClassId} {adr : Nat → Nat} {σ σ' : zkS} {i : Nat} (h1 : ∀ k, σ'.1 i k = σ.1 i k) (h2 : zkd u i = 10 → σ'.2 = σ.2) : zcn u cI cJ adr σ' i = zcn u cI cJ adr σ i := by
  have e : σ'.1 i = σ.1 i := funext h1
  unfold zcn
  by_cases h9 : zkd u i = 9
  · rw [if_pos h9, if_pos h9, e]
  · rw [if_neg h9, if_neg h9]
    by_cases h10 : zkd u i = 10
    · rw [if_pos h10, if_pos h10, h2 h10]
    · rw [if_neg h10, if_neg h10]
      unfold zob zfv
      rw [e]
theorem zW_si_ob {u : Nat} {cI cJ : ClassId} {adr : Nat → Nat} {σ : zkS} {a ci k : Nat} {v : Int32} (hk : zkd u a = ci) (h9 : ci < 9) (ho : zof ci k = 0) : (zW u cI cJ adr σ).set a (adr a, .inr (ci, (zob ci adr σ a).set k (.int v))) = zW u cI cJ adr (zsi σ a k v) := by
  refine zW_set (fun i _ hia => zcn_ext (fun k' => ?_) (fun _ => rfl)) ?_
  · show (if i = a ∧ k' = k then v else σ.1 i k') = _
    rw [if_neg (fun q => hia q.1)]
  · rw [zcn, if_neg (by omega), if_neg (by omega), hk]
    congr 2
    apply List.ext_getElem?
    intro j
    rw [List.getElem?_set]
    unfold zob
    by_cases hj : j < znf ci
    · rw [List.getElem?_map, List.getElem?_range hj]
      by_cases hjk : k = j
      · subst hjk
        rw [if_pos rfl, if_pos (by simpa using hj)]
        show some (zfv ci adr (zsi σ a k v) a k) = _
        rw [zfv, if_pos ho]
        show some (Value.int (if a = a ∧ k = k then v else _)) = _
        rw [if_pos ⟨rfl, rfl⟩]
      · rw [if_neg hjk, List.getElem?_map, List.getElem?_range hj]
        show some (zfv ci adr (zsi σ a k v) a j) = some (zfv ci adr σ a j)
        unfold zfv
        have : (zsi σ a k v).1 a j = σ.1 a j := by
          show (if a = a ∧ j = k then v else σ.1 a j) = _
          rw [if_neg (fun q => hjk q.2.symm)]
        rw [this]
    · rw [List.getElem?_eq_none (by simp; omega)]
      by_cases hjk : k = j
      · rw [if_pos hjk, if_neg (by simp; omega)]
      · rw [if_neg hjk, List.getElem?_eq_none (by simp; omega)]
theorem zW_si_ar {u : Nat} {cI cJ : ClassId} {adr : Nat → Nat} {σ : zkS} {a n k : Nat} {v : Int32} (hk : zkd u a = 9) (hn : zln u a = n) : (zW u cI cJ adr σ).set a (adr a, .inl (cI, n, .inl (upd (σ.1 a) k v))) = zW u cI cJ adr (zsi σ a k v) := by
  refine zW_set (fun i _ hia => zcn_ext (fun k' => ?_) (fun _ => rfl)) ?_
  · show (if i = a ∧ k' = k then v else σ.1 i k') = _
    rw [if_neg (fun q => hia q.1)]
  · rw [zcn, if_pos hk, hn]
    congr 4
    funext j
    show (if a = a ∧ j = k then v else σ.1 a j) = (if j = k then v else σ.1 a j)
    by_cases hj : j = k
    · rw [if_pos ⟨rfl, hj⟩, if_pos hj]
    · rw [if_neg (fun q => hj q.2), if_neg hj]
theorem zW_ci {u : Nat} {cI cJ : ClassId} {adr : Nat → Nat} {σ : zkS} {a b n sp dp w : Nat} (hk : zkd u b = 9) (hn : zln u b = n) : (zW u cI cJ adr σ).set b (adr b, .inl (cI, n, .inl (va_cpy (σ.1 a) (σ.1 b) sp dp w))) = zW u cI cJ adr (zcI σ a b sp dp w) := by
  refine zW_set (fun i _ hia => zcn_ext (fun k' => ?_) (fun _ => rfl)) ?_
  · show (if i = b then _ else σ.1 i k') = _
    rw [if_neg hia]
  · rw [zcn, if_pos hk, hn]
    congr 4
    funext j
    show (if b = b then _ else _) = _
    rw [if_pos rfl]
theorem zj_one : ∀ u, u < 2 → ∀ i, i < zsz u → ∀ a, a < zsz u → zkd u i = 10 → zkd u a = 10 → i = a := by
  intro u hu
  rcases (show u = 0 ∨ u = 1 by omega) with rfl | rfl
  · intro i hi a ha h1 h2
    have k1 : ∀ j, j < 53 → zkd 0 j = 10 → j = 52 := by decide +kernel
    rw [k1 i hi h1, k1 a ha h2]
  · intro i hi a ha h1 h2
    have k1 : ∀ j, j < 15 → zkd 1 j = 10 → j = 14 := by decide +kernel
    rw [k1 i hi h1, k1 a ha h2]
theorem zW_l {u : Nat} {cI cJ : ClassId} {adr : Nat → Nat} {σ : zkS} {a n : Nat} {f : Nat → Int64} (hu : u < 2) (ha : a < zsz u) (hk : zkd u a = 10) (hn : zln u a = n) : (zW u cI cJ adr σ).set a (adr a, .inl (cJ, n, .inr (.inl f))) = zW u cI cJ adr (σ.1, f) := by
  refine zW_set (fun i hi hia => zcn_ext (fun k' => rfl) (fun h10 => absurd (zj_one u hu i hi a ha h10 hk) hia)) ?_
  rw [zcn, if_neg (by omega), if_pos hk, hn]
/-- which cells a world's methods may change: its own, and new ones -/
def zA (u : Nat) (adr : Nat → Nat) (z : Nat) : Nat → Prop := fun q => (∃ a, a < zsz u ∧ q = adr a) ∨ z ≤ q
def zInj (u : Nat) (adr : Nat → Nat) : Prop := ∀ i j, i < zsz u → j < zsz u → adr i = adr j → i = j
theorem zD {u : Nat} {cI cJ : ClassId} {adr : Nat → Nat} {σ : zkS} {z : Nat} (hI : zInj u adr) : va_D (zA u adr z) (zW u cI cJ adr σ) := by
  refine ⟨fun i j p q hp hq e => ?_, fun k q hk => ?_⟩
  · obtain ⟨h1, h2⟩ := zW_inv hp
    obtain ⟨h3, h4⟩ := zW_inv hq
    exact hI i j h1 h3 (by rw [← h2, ← h4, e])
  · obtain ⟨h1, h2⟩ := zW_inv hk
    exact Or.inl ⟨k, h1, h2⟩
abbrev zT (cI cJ : ClassId) : List (ClassId × FieldType) := [(cI, .int), (cJ, .long)]
def zKx (p : Program) (s : State) (m : MethodId) (c : Code) (args : Array Value) (cc : ByteArray) (own : String) (nL u : Nat) (D : va_G) (cI cJ : ClassId) (adr : Nat → Nat) : Prop :=
  p.tables.exec = Jvm.exec ∧ c.code = cc ∧ c.maxLocals = nL ∧ s.vm.findClass own = some m.cls ∧ (∀ w ∈ zTb, w.before args s = true) ∧ va_K D vwCl (zT cI cJ) s ∧ zN s ∧ zInj u adr
def zWo (u : Nat) (D : va_G) (cI cJ : ClassId) (adr : Nat → Nat) (s : State) (σ : zkS) (H : Heap) (locs : List Loc) : Prop := va_P D vwCl (zW u cI cJ adr σ) H ∧ va_S (zA u adr s.heap.size) s.heap H locs
def zPre (u : Nat) (D : va_G) (cI cJ : ClassId) (adr : Nat → Nat) (σ : zkS) (z : Nat) (av : List Value) : Array Value → State → Prop := va_Pc av (fun U => U.heap.size = z ∧ va_P D vwCl (zW u cI cJ adr σ) U.heap ∧ va_K D vwCl (zT cI cJ) U ∧ zN U)
def zQi (u : Nat) (D : va_G) (cI cJ : ClassId) (adr : Nat → Nat) (z : Nat) (r : Int32) (σ : zkS) : Array Value → State → Outcome → State → Prop := va_Qi (fun (r' : Int32) (_ : Unit) => r' = r) (fun _ t => va_P D vwCl (zW u cI cJ adr σ) t.heap) (zA u adr z)
def zQl (u : Nat) (D : va_G) (cI cJ : ClassId) (adr : Nat → Nat) (z : Nat) (r : Int64) (σ : zkS) : Array Value → State → Outcome → State → Prop := va_Ql (fun (r' : Int64) (_ : Unit) => r' = r) (fun _ t => va_P D vwCl (zW u cI cJ adr σ) t.heap) (zA u adr z)
def zQv (u : Nat) (D : va_G) (cI cJ : ClassId) (adr : Nat → Nat) (z : Nat) (σ : zkS) : Array Value → State → Outcome → State → Prop := va_Qv (fun (_ : Unit) => True) (fun _ t => va_P D vwCl (zW u cI cJ adr σ) t.heap) (zA u adr z)
theorem zPre_blind {u : Nat} {D : va_G} {cI cJ : ClassId} {adr : Nat → Nat} {σ : zkS} {z : Nat} {av : List Value} : FrameBlind (zPre u D cI cJ adr σ z av) := fun a U g mk q => by
  obtain ⟨q0, q1, qP, qK, qN⟩ := q
  exact ⟨q0, q1, qP, va_K.moved (u := U) (U := U.calling g mk a) (Vm.Alike.refl U.vm) qK, fun w hw => va_Nw.same (u := U) (U := U.calling g mk a) rfl rfl (qN w hw)⟩
theorem zA_up {u : Nat} {adr : Nat → Nat} {z z' : Nat} (h : z ≤ z') : ∀ q, zA u adr z' q → zA u adr z q := fun q hq => hq.elim Or.inl (fun h2 => Or.inr (Nat.le_trans h h2))
/-! the words of the functions read off the code: what a step gives, or none where an index, a divisor or a truth value isn't as it must be -/
def zlt {α β : Type} (e : α) (F : α → β) : β := F e
def zb1 {α β : Type} (m : Option α) (F : α → Option β) : Option β := match m with
  | some x => F x
  | none => none
def zb2 {α β : Type} (m : Option (α × zkS)) (F : α → zkS → Option β) : Option β := match m with
  | some x => F x.1 x.2
  | none => none
def zw2 {α β : Type} (m : α × zkS) (F : α → zkS → β) : β := F m.1 m.2
def zjn {α β : Type} (T : α → β) (B : (α → β) → β) : β := B T
def zrd {β : Type} (σ : zkS) (a n : Nat) (i : Int32) (F : Int32 → Option β) : Option β := if i < 0 ∨ n ≤ i.toNatClampNeg then none else F (σ.1 a i.toNatClampNeg)
def zwr {β : Type} (σ : zkS) (a n : Nat) (i v : Int32) (F : zkS → Option β) : Option β := if i < 0 ∨ n ≤ i.toNatClampNeg then none else F (zsi σ a i.toNatClampNeg v)
def zrdL {β : Type} (σ : zkS) (n : Nat) (i : Int32) (F : Int64 → Option β) : Option β := if i < 0 ∨ n ≤ i.toNatClampNeg then none else F (σ.2 i.toNatClampNeg)
def zwrL {β : Type} (σ : zkS) (n : Nat) (i : Int32) (v : Int64) (F : zkS → Option β) : Option β := if i < 0 ∨ n ≤ i.toNatClampNeg then none else F (zsl σ i.toNatClampNeg v)
def zpi {β : Type} (σ : zkS) (a k : Nat) (v : Int32) (F : zkS → β) : β := F (zsi σ a k v)
def zpz {β : Type} (σ : zkS) (a k : Nat) (v : Int32) (F : zkS → Option β) : Option β := if v = 0 ∨ v = 1 then F (zsi σ a k v) else none
def zdv {β : Type} (x y : Int32) (F : Int32 → Option β) : Option β := if y = 0 then none else F (x / y)
def zrm {β : Type} (x y : Int32) (F : Int32 → Option β) : Option β := if y = 0 then none else F (x - x / y * y)
def zdvL {β : Type} (x y : Int64) (F : Int64 → Option β) : Option β := if y = 0 then none else F (x / y)
def zrmL {β : Type} (x y : Int64) (F : Int64 → Option β) : Option β := if y = 0 then none else F (x - x / y * y)
def zcy {β : Type} (σ : zkS) (a b n0 n1 : Nat) (sp dp n : Int32) (F : zkS → Option β) : Option β := if sp < 0 ∨ dp < 0 ∨ n < 0 ∨ n0 < sp.toNatClampNeg + n.toNatClampNeg ∨ n1 < dp.toNatClampNeg + n.toNatClampNeg then none else F (zcI σ a b sp.toNatClampNeg dp.toNatClampNeg n.toNatClampNeg)
def zcyL {β : Type} (σ : zkS) (n0 : Nat) (sp dp n : Int32) (F : zkS → Option β) : Option β := if sp < 0 ∨ dp < 0 ∨ n < 0 ∨ n0 < sp.toNatClampNeg + n.toNatClampNeg ∨ n0 < dp.toNatClampNeg + n.toNatClampNeg then none else F (zcL σ sp.toNatClampNeg dp.toNatClampNeg n.toNatClampNeg)
def zck {β : Type} (v : Int32) (r : Option β) : Option β := if v = 0 ∨ v = 1 then r else none
theorem zb1_o {α β : Type} {m : Option α} {F : α → Option β} {o : β} (h : zb1 m F = some o) : ∃ x, m = some x ∧ F x = some o := by
  cases m with
  | none => cases h
  | some x => exact ⟨x, rfl, h⟩
theorem zb2_o {α β : Type} {m : Option (α × zkS)} {F : α → zkS → Option β} {o : β} (h : zb2 m F = some o) : ∃ x σ, m = some (x, σ) ∧ F x σ = some o := by
  cases m with
  | none => cases h
  | some x => exact ⟨x.1, x.2, rfl, h⟩
theorem zw2_o {α β : Type} {m : α × zkS} {F : α → zkS → β} {o : β} (h : zw2 m F = o) : ∃ x σ, m = (x, σ) ∧ F x σ = o := ⟨m.1, m.2, rfl, h⟩
theorem zck_o {β : Type} {v : Int32} {r : Option β} {o : β} (h : zck v r = some o) : (v = 0 ∨ v = 1) ∧ r = some o := by
  unfold zck at h
  by_cases hv : v = 0 ∨ v = 1
  · rw [if_pos hv] at h
    exact ⟨hv, h⟩
  · rw [if_neg hv] at h
    cases h
/-- all that the tables say of a field of a kind of objects, and of its link in one of the pools -/
def zFl (own : String) (index ci k o : Nat) : Prop := ∃ (C : String) (T : u_T) (ref : String), vwCl[ci]? = some (C, T, znf ci) ∧ ci < 9 ∧ (∀ w ∈ u_ws C T (znf ci), w ∈ zTb) ∧ Cond.fieldLink own index ref (T k).2.1 (T k).2.2.1 ∈ zTb ∧ (T k).1 = ref ∧ k < znf ci ∧ zof ci k = o
def zFp (own : String) (index ci k : Nat) (ty : FieldType) : Prop := ∃ (C : String) (T : u_T) (ref : String) (ty0 : Nat → FieldType), vwCl[ci]? = some (C, T, znf ci) ∧ ci < 9 ∧ (∀ w ∈ u_ws C T (znf ci), w ∈ zTb) ∧ Cond.fieldLink own index ref (T k).2.1 (T k).2.2.1 ∈ zTb ∧ (T k).1 = ref ∧ k < znf ci ∧ zof ci k = 0 ∧
  (∀ k, k < znf ci → parseFieldDescriptor (T k).2.2.1 = some (ty0 k)) ∧ (∀ a, a < znf ci → ∀ b, b < znf ci → a ≠ b → (T a).2.1 ≠ (T b).2.1) ∧ (T k).2.2.2 = false ∧ parseFieldDescriptor (T k).2.2.1 = some ty
theorem zob_at {ci k : Nat} {adr : Nat → Nat} {σ : zkS} {a : Nat} (hk : k < znf ci) : (zob ci adr σ a)[k]? = some (zfv ci adr σ a k) := by
  unfold zob
  rw [List.getElem?_map, List.getElem?_range hk]
  rfl
section ZR
variable {p : Program} {l : Launch} {e : Env} {R : Room} {s : State} {m : MethodId} {args : Array Value} {below : List Frame} {meth : Method} {c : Code} {H : Heap} {locs : List Loc} {cells slots : Nat} {Q : State → Prop}
variable {cc : ByteArray} {own : String} {nL u : Nat} {D : va_G} {cI cJ : ClassId} {adr : Nat → Nat} {σ : zkS} {pc : Nat} {ls : Array Slot} {rest : List Value} {β : Type} {o : β}
theorem zg_i (hC : zKx p s m c args cc own nL u D cI cJ adr) (hW : zWo u D cI cJ adr s σ H locs) {ci a k index : Nat} (hl : zFl own index ci k 0) (hk : zkd u a = ci) (ha : a < zsz u) (hdg : decode cc pc = .ok (.getfield index, 3))
    (kk : W p l e R s m args below meth c H locs cells slots Q (F0 m (pc + 3) ls (.int (σ.1 a k) :: rest))) : W p l e R s m args below meth c H locs cells slots Q (F0 m pc ls (.ref (adr a) :: rest)) := by
  obtain ⟨C, T, ref, h1, h9, h2, h3, h4, h5, h6⟩ := hl
  obtain ⟨hx, hb, hml, hown, hts, hK, hN, hI⟩ := hC
  subst h4
  exact va_get hx hb hts h2 hown hK hW.1 a (zW_ob ha hk h9) h1 k h5 (hts _ h3) (fun _ h => h) (by rw [zob_at h5, zfv, if_pos h6]) hdg kk
theorem zg_a (hC : zKx p s m c args cc own nL u D cI cJ adr) (hW : zWo u D cI cJ adr s σ H locs) {ci a k o a' index : Nat} (hl : zFl own index ci k (o + 1)) (hk : zkd u a = ci) (ha : a < zsz u) (he : a + (o + 1) = a') (hdg : decode cc pc = .ok (.getfield index, 3))
    (kk : W p l e R s m args below meth c H locs cells slots Q (F0 m (pc + 3) ls (.ref (adr a') :: rest))) : W p l e R s m args below meth c H locs cells slots Q (F0 m pc ls (.ref (adr a) :: rest)) := by
  obtain ⟨C, T, ref, h1, h9, h2, h3, h4, h5, h6⟩ := hl
  obtain ⟨hx, hb, hml, hown, hts, hK, hN, hI⟩ := hC
  subst h4
  subst he
  exact va_get hx hb hts h2 hown hK hW.1 a (zW_ob ha hk h9) h1 k h5 (hts _ h3) (fun _ h => h) (by rw [zob_at h5, zfv, if_neg (by omega), h6]) hdg kk
theorem zp_g (hC : zKx p s m c args cc own nL u D cI cJ adr) (hW : zWo u D cI cJ adr s σ H locs) {ci a k index : Nat} {ty : FieldType} {v : Int32} (hl : zFp own index ci k ty) (hk : zkd u a = ci) (ha : a < zsz u) (hn : narrow ty (.int v) = .int v) (hfit : fits ty (.int v) = true) (hdg : decode cc pc = .ok (.putfield index, 3))
    (kk : ∀ (H1 : Heap) (locs1 : List Loc), zWo u D cI cJ adr s (zsi σ a k v) H1 locs1 → W p l e R s m args below meth c H1 locs1 cells slots Q (F0 m (pc + 3) ls rest)) : W p l e R s m args below meth c H locs cells slots Q (F0 m pc ls (.int v :: .ref (adr a) :: rest)) := by
  obtain ⟨C, T, ref, ty0, h1, h9, h2, h3, h4, h5, h6, h7, h8, hfin, hty⟩ := hl
  obtain ⟨hx, hb, hml, hown, hts, hK, hN, hI⟩ := hC
  subst h4
  refine va_put hx hb hts h2 ty0 h7 h8 hown hK hW.1 (zD hI) hW.2 a (zW_ob ha hk h9) h1 k h5 (hts _ h3) (fun _ h => h) hfin hty hn hfit (by unfold zob; simpa using h5) hdg (fun H1 locs1 hP hD hS => ?_)
  rw [zW_si_ob hk h9 h6] at hP
  exact kk H1 locs1 ⟨hP, hS⟩
theorem zp_i (hC : zKx p s m c args cc own nL u D cI cJ adr) (hW : zWo u D cI cJ adr s σ H locs) {ci a k index : Nat} {v : Int32} {F : zkS → β} (hf : zpi σ a k v F = o) (hl : zFp own index ci k .int) (hk : zkd u a = ci) (ha : a < zsz u) (hdg : decode cc pc = .ok (.putfield index, 3))
    (kk : ∀ (σ : zkS) (H1 : Heap) (locs1 : List Loc), F σ = o → zWo u D cI cJ adr s σ H1 locs1 → W p l e R s m args below meth c H1 locs1 cells slots Q (F0 m (pc + 3) ls rest)) : W p l e R s m args below meth c H locs cells slots Q (F0 m pc ls (.int v :: .ref (adr a) :: rest)) :=
  zp_g hC hW hl hk ha rfl rfl hdg (fun H1 locs1 hW1 => kk _ H1 locs1 hf hW1)
theorem z01 {v : Int32} (h : v = 0 ∨ v = 1) : narrow .boolean (.int v) = .int v ∧ fits .boolean (.int v) = true := by
  rcases h with rfl | rfl
  · exact ⟨by decide +kernel, by decide +kernel⟩
  · exact ⟨by decide +kernel, by decide +kernel⟩
theorem zp_z (hC : zKx p s m c args cc own nL u D cI cJ adr) (hW : zWo u D cI cJ adr s σ H locs) {ci a k index : Nat} {v : Int32} {F : zkS → Option β} (hf : zpz σ a k v F = some o) (hl : zFp own index ci k .boolean) (hk : zkd u a = ci) (ha : a < zsz u) (hdg : decode cc pc = .ok (.putfield index, 3))
    (kk : ∀ (σ : zkS) (H1 : Heap) (locs1 : List Loc), F σ = some o → zWo u D cI cJ adr s σ H1 locs1 → W p l e R s m args below meth c H1 locs1 cells slots Q (F0 m (pc + 3) ls rest)) : W p l e R s m args below meth c H locs cells slots Q (F0 m pc ls (.int v :: .ref (adr a) :: rest)) := by
  unfold zpz at hf
  by_cases h : v = 0 ∨ v = 1
  · rw [if_pos h] at hf
    exact zp_g hC hW hl hk ha (z01 h).1 (z01 h).2 hdg (fun H1 locs1 hW1 => kk _ H1 locs1 hf hW1)
  · rw [if_neg h] at hf
    cases hf
/-- a truth value that is written as 0 or 1 -/
theorem zp_y (hC : zKx p s m c args cc own nL u D cI cJ adr) (hW : zWo u D cI cJ adr s σ H locs) {ci a k index : Nat} {v : Int32} {F : zkS → β} (hf : zpi σ a k v F = o) (hv : v = 0 ∨ v = 1) (hl : zFp own index ci k .boolean) (hk : zkd u a = ci) (ha : a < zsz u) (hdg : decode cc pc = .ok (.putfield index, 3))
    (kk : ∀ (σ : zkS) (H1 : Heap) (locs1 : List Loc), F σ = o → zWo u D cI cJ adr s σ H1 locs1 → W p l e R s m args below meth c H1 locs1 cells slots Q (F0 m (pc + 3) ls rest)) : W p l e R s m args below meth c H locs cells slots Q (F0 m pc ls (.int v :: .ref (adr a) :: rest)) :=
  zp_g hC hW hl hk ha (z01 hv).1 (z01 hv).2 hdg (fun H1 locs1 hW1 => kk _ H1 locs1 hf hW1)
def zAr (u a n : Nat) : Prop := a < zsz u ∧ zkd u a = 9 ∧ zln u a = n
theorem za_l (hC : zKx p s m c args cc own nL u D cI cJ adr) (hW : zWo u D cI cJ adr s σ H locs) {a n : Nat} {i : Int32} {F : Int32 → Option β} (hf : zrd σ a n i F = some o) (ha : zAr u a n) (hdg : decode cc pc = .ok (.iaload, 1))
    (kk : ∀ v : Int32, F v = some o → W p l e R s m args below meth c H locs cells slots Q (F0 m (pc + 1) ls (.int v :: rest))) : W p l e R s m args below meth c H locs cells slots Q (F0 m pc ls (.int i :: .ref (adr a) :: rest)) := by
  obtain ⟨hx, hb, hml, hown, hts, hK, hN, hI⟩ := hC
  unfold zrd at hf
  by_cases h : i < 0 ∨ n ≤ i.toNatClampNeg
  · rw [if_pos h] at hf
    cases hf
  · rw [if_neg h] at hf
    exact va_iald hx hb hK hW.1 a 0 (zW_ar ha.1 ha.2.1 ha.2.2) rfl h hdg (kk _ hf)
theorem za_s (hC : zKx p s m c args cc own nL u D cI cJ adr) (hW : zWo u D cI cJ adr s σ H locs) {a n : Nat} {i v : Int32} {F : zkS → Option β} (hf : zwr σ a n i v F = some o) (ha : zAr u a n) (hdg : decode cc pc = .ok (.iastore, 1))
    (kk : ∀ (σ : zkS) (H1 : Heap) (locs1 : List Loc), F σ = some o → zWo u D cI cJ adr s σ H1 locs1 → W p l e R s m args below meth c H1 locs1 cells slots Q (F0 m (pc + 1) ls rest)) : W p l e R s m args below meth c H locs cells slots Q (F0 m pc ls (.int v :: .int i :: .ref (adr a) :: rest)) := by
  obtain ⟨hx, hb, hml, hown, hts, hK, hN, hI⟩ := hC
  unfold zwr at hf
  by_cases h : i < 0 ∨ n ≤ i.toNatClampNeg
  · rw [if_pos h] at hf
    cases hf
  · rw [if_neg h] at hf
    refine va_iast hx hb hK hW.1 (zD hI) hW.2 a 0 (zW_ar ha.1 ha.2.1 ha.2.2) rfl h hdg (fun H1 locs1 hP hD hS => ?_)
    rw [zW_si_ar ha.2.1 ha.2.2] at hP
    exact kk _ H1 locs1 hf ⟨hP, hS⟩
def zAj (u a n : Nat) : Prop := u < 2 ∧ a < zsz u ∧ zkd u a = 10 ∧ zln u a = n
theorem za_lL (hC : zKx p s m c args cc own nL u D cI cJ adr) (hW : zWo u D cI cJ adr s σ H locs) {a n : Nat} {i : Int32} {F : Int64 → Option β} (hf : zrdL σ n i F = some o) (ha : zAj u a n) (hdg : decode cc pc = .ok (.laload, 1))
    (kk : ∀ v : Int64, F v = some o → W p l e R s m args below meth c H locs cells slots Q (F0 m (pc + 1) ls (.long v :: rest))) : W p l e R s m args below meth c H locs cells slots Q (F0 m pc ls (.int i :: .ref (adr a) :: rest)) := by
  obtain ⟨hx, hb, hml, hown, hts, hK, hN, hI⟩ := hC
  unfold zrdL at hf
  by_cases h : i < 0 ∨ n ≤ i.toNatClampNeg
  · rw [if_pos h] at hf
    cases hf
  · rw [if_neg h] at hf
    exact va_lald hx hb hK hW.1 a 1 (zW_aj ha.2.1 ha.2.2.1 ha.2.2.2) rfl h hdg (kk _ hf)
theorem za_sL (hC : zKx p s m c args cc own nL u D cI cJ adr) (hW : zWo u D cI cJ adr s σ H locs) {a n : Nat} {i : Int32} {v : Int64} {F : zkS → Option β} (hf : zwrL σ n i v F = some o) (ha : zAj u a n) (hdg : decode cc pc = .ok (.lastore, 1))
    (kk : ∀ (σ : zkS) (H1 : Heap) (locs1 : List Loc), F σ = some o → zWo u D cI cJ adr s σ H1 locs1 → W p l e R s m args below meth c H1 locs1 cells slots Q (F0 m (pc + 1) ls rest)) : W p l e R s m args below meth c H locs cells slots Q (F0 m pc ls (.long v :: .int i :: .ref (adr a) :: rest)) := by
  obtain ⟨hx, hb, hml, hown, hts, hK, hN, hI⟩ := hC
  unfold zwrL at hf
  by_cases h : i < 0 ∨ n ≤ i.toNatClampNeg
  · rw [if_pos h] at hf
    cases hf
  · rw [if_neg h] at hf
    refine va_last hx hb hK hW.1 (zD hI) hW.2 a 1 (zW_aj ha.2.1 ha.2.2.1 ha.2.2.2) rfl h hdg (fun H1 locs1 hP hD hS => ?_)
    rw [zW_l ha.1 ha.2.1 ha.2.2.1 ha.2.2.2] at hP
    exact kk _ H1 locs1 hf ⟨hP, hS⟩
theorem za_n (hC : zKx p s m c args cc own nL u D cI cJ adr) (hW : zWo u D cI cJ adr s σ H locs) {a n : Nat} (ha : zAr u a n) (hdg : decode cc pc = .ok (.arraylength, 1))
    (kk : W p l e R s m args below meth c H locs cells slots Q (F0 m (pc + 1) ls (.int (Int32.ofNat n) :: rest))) : W p l e R s m args below meth c H locs cells slots Q (F0 m pc ls (.ref (adr a) :: rest)) := by
  obtain ⟨hx, hb, hml, hown, hts, hK, hN, hI⟩ := hC
  exact va_alen hx hb hK hW.1 a 0 (zW_ar ha.1 ha.2.1 ha.2.2) rfl rfl hdg kk
theorem za_nL (hC : zKx p s m c args cc own nL u D cI cJ adr) (hW : zWo u D cI cJ adr s σ H locs) {a n : Nat} (ha : zAj u a n) (hdg : decode cc pc = .ok (.arraylength, 1))
    (kk : W p l e R s m args below meth c H locs cells slots Q (F0 m (pc + 1) ls (.int (Int32.ofNat n) :: rest))) : W p l e R s m args below meth c H locs cells slots Q (F0 m pc ls (.ref (adr a) :: rest)) := by
  obtain ⟨hx, hb, hml, hown, hts, hK, hN, hI⟩ := hC
  exact va_alen hx hb hK hW.1 a 1 (zW_aj ha.2.1 ha.2.2.1 ha.2.2.2) rfl rfl hdg kk
def zCy (own : String) (index : Nat) : Prop := Cond.methodLink own index arraycopyName ∈ zTb ∧ Cond.native arraycopyName ∈ zTb ∧ Cond.static arraycopyName ∈ zTb ∧ Cond.initialized "java/lang/System" ∈ zTb
theorem za_c (hC : zKx p s m c args cc own nL u D cI cJ adr) (hW : zWo u D cI cJ adr s σ H locs) {a b n0 n1 index : Nat} {sp dp n : Int32} {F : zkS → Option β} (hf : zcy σ a b n0 n1 sp dp n F = some o) (hq : zCy own index) (ha : zAr u a n0) (hb1 : zAr u b n1) (hls : ls.size = nL) (hR : 1 ≤ R.frames ∧ (rest.map fun v => v.category).sum + 18 ≤ R.locals) (hdg : decode cc pc = .ok (.invokestatic index, 3))
    (kk : ∀ (σ : zkS) (H1 : Heap) (locs1 : List Loc), F σ = some o → zWo u D cI cJ adr s σ H1 locs1 → W p l e R s m args below meth c H1 locs1 cells slots Q (F0 m (pc + 3) ls rest)) : W p l e R s m args below meth c H locs cells slots Q (F0 m pc ls (.int n :: .int dp :: .ref (adr b) :: .int sp :: .ref (adr a) :: rest)) := by
  obtain ⟨hx, hb, hml, hown, hts, hK, hN, hI⟩ := hC
  unfold zcy at hf
  by_cases h : sp < 0 ∨ dp < 0 ∨ n < 0 ∨ n0 < sp.toNatClampNeg + n.toNatClampNeg ∨ n1 < dp.toNatClampNeg + n.toNatClampNeg
  · rw [if_pos h] at hf
    cases hf
  · rw [if_neg h] at hf
    refine va_copyi hx hb (by rw [hml, hls]) hown (hts _ hq.1) (hts _ hq.2.1) (hts _ hq.2.2.1) (hts _ hq.2.2.2) hK hW.1 (zD hI) hW.2 a b 0 0 (zW_ar ha.1 ha.2.1 ha.2.2) (zW_ar hb1.1 hb1.2.1 hb1.2.2) rfl rfl rfl (fun q => h (Or.inl q)) (fun q => h (Or.inr (Or.inl q))) (fun q => h (Or.inr (Or.inr (Or.inl q)))) (Nat.not_lt.mp fun q => h (Or.inr (Or.inr (Or.inr (Or.inl q))))) (Nat.not_lt.mp fun q => h (Or.inr (Or.inr (Or.inr (Or.inr q))))) (fun _ _ => rfl) hR.1 (Nat.le_trans (Nat.add_le_add_left (by decide +kernel) _) hR.2) hdg (fun H1 locs1 hP hD hS => ?_)
    rw [zW_ci hb1.2.1 hb1.2.2] at hP
    exact kk _ H1 locs1 hf ⟨hP, hS⟩
theorem za_cL (hC : zKx p s m c args cc own nL u D cI cJ adr) (hW : zWo u D cI cJ adr s σ H locs) {a n0 index : Nat} {sp dp n : Int32} {F : zkS → Option β} (hf : zcyL σ n0 sp dp n F = some o) (hq : zCy own index) (ha : zAj u a n0) (hls : ls.size = nL) (hR : 1 ≤ R.frames ∧ (rest.map fun v => v.category).sum + 18 ≤ R.locals) (hdg : decode cc pc = .ok (.invokestatic index, 3))
    (kk : ∀ (σ : zkS) (H1 : Heap) (locs1 : List Loc), F σ = some o → zWo u D cI cJ adr s σ H1 locs1 → W p l e R s m args below meth c H1 locs1 cells slots Q (F0 m (pc + 3) ls rest)) : W p l e R s m args below meth c H locs cells slots Q (F0 m pc ls (.int n :: .int dp :: .ref (adr a) :: .int sp :: .ref (adr a) :: rest)) := by
  obtain ⟨hx, hb, hml, hown, hts, hK, hN, hI⟩ := hC
  unfold zcyL at hf
  by_cases h : sp < 0 ∨ dp < 0 ∨ n < 0 ∨ n0 < sp.toNatClampNeg + n.toNatClampNeg ∨ n0 < dp.toNatClampNeg + n.toNatClampNeg
  · rw [if_pos h] at hf
    cases hf
  · rw [if_neg h] at hf
    refine va_copyl hx hb (by rw [hml, hls]) hown (hts _ hq.1) (hts _ hq.2.1) (hts _ hq.2.2.1) (hts _ hq.2.2.2) hK hW.1 (zD hI) hW.2 a a 1 1 (zW_aj ha.2.1 ha.2.2.1 ha.2.2.2) (zW_aj ha.2.1 ha.2.2.1 ha.2.2.2) rfl rfl rfl (fun q => h (Or.inl q)) (fun q => h (Or.inr (Or.inl q))) (fun q => h (Or.inr (Or.inr (Or.inl q)))) (Nat.not_lt.mp fun q => h (Or.inr (Or.inr (Or.inr (Or.inl q))))) (Nat.not_lt.mp fun q => h (Or.inr (Or.inr (Or.inr (Or.inr q))))) (fun _ _ => rfl) hR.1 (Nat.le_trans (Nat.add_le_add_left (by decide +kernel) _) hR.2) hdg (fun H1 locs1 hP hD hS => ?_)
    rw [zW_l ha.1 ha.2.1 ha.2.2.1 ha.2.2.2] at hP
    exact kk _ H1 locs1 hf ⟨hP, hS⟩
/-! branches, each with the function's own -/
theorem zi_if_eq (hx : p.tables.exec = Jvm.exec) (hb : c.code = cc) {x : Int32} {off : Int} {tgt : Nat} (hdg : decode cc pc = .ok (.ifCond .eq off, 3)) (ht : (pc : Int) + off = (tgt : Int)) {A B o : β} (hf : (if x = 0 then A else B) = o)
    (kt : x = 0 → A = o → W p l e R s m args below meth c H locs cells slots Q (F0 m tgt ls rest)) (kf : ¬ x = 0 → B = o → W p l e R s m args below meth c H locs cells slots Q (F0 m (pc + 3) ls rest)) : W p l e R s m args below meth c H locs cells slots Q (F0 m pc ls (.int x :: rest)) :=
  lv_if_eq hx hb hdg ht (fun q => kt q ((if_pos q).symm.trans hf)) (fun q => kf q ((if_neg q).symm.trans hf))
theorem zi_if_ne (hx : p.tables.exec = Jvm.exec) (hb : c.code = cc) {x : Int32} {off : Int} {tgt : Nat} (hdg : decode cc pc = .ok (.ifCond .ne off, 3)) (ht : (pc : Int) + off = (tgt : Int)) {A B o : β} (hf : (if x = 0 then A else B) = o)
    (kf : x = 0 → A = o → W p l e R s m args below meth c H locs cells slots Q (F0 m (pc + 3) ls rest)) (kt : ¬ x = 0 → B = o → W p l e R s m args below meth c H locs cells slots Q (F0 m tgt ls rest)) : W p l e R s m args below meth c H locs cells slots Q (F0 m pc ls (.int x :: rest)) :=
  lv_if_ne hx hb hdg ht (fun q => kt q ((if_neg q).symm.trans hf)) (fun q => kf q ((if_pos q).symm.trans hf))
theorem zi_if_lt (hx : p.tables.exec = Jvm.exec) (hb : c.code = cc) {x : Int32} {off : Int} {tgt : Nat} (hdg : decode cc pc = .ok (.ifCond .lt off, 3)) (ht : (pc : Int) + off = (tgt : Int)) {A B o : β} (hf : (if x < 0 then A else B) = o)
    (kt : x < 0 → A = o → W p l e R s m args below meth c H locs cells slots Q (F0 m tgt ls rest)) (kf : ¬ x < 0 → B = o → W p l e R s m args below meth c H locs cells slots Q (F0 m (pc + 3) ls rest)) : W p l e R s m args below meth c H locs cells slots Q (F0 m pc ls (.int x :: rest)) :=
  lv_if_lt hx hb hdg ht (fun q => kt q ((if_pos q).symm.trans hf)) (fun q => kf q ((if_neg q).symm.trans hf))
theorem zi_if_ge (hx : p.tables.exec = Jvm.exec) (hb : c.code = cc) {x : Int32} {off : Int} {tgt : Nat} (hdg : decode cc pc = .ok (.ifCond .ge off, 3)) (ht : (pc : Int) + off = (tgt : Int)) {A B o : β} (hf : (if 0 ≤ x then A else B) = o)
    (kt : 0 ≤ x → A = o → W p l e R s m args below meth c H locs cells slots Q (F0 m tgt ls rest)) (kf : ¬ 0 ≤ x → B = o → W p l e R s m args below meth c H locs cells slots Q (F0 m (pc + 3) ls rest)) : W p l e R s m args below meth c H locs cells slots Q (F0 m pc ls (.int x :: rest)) :=
  lv_if_ge hx hb hdg ht (fun q => kt q ((if_pos q).symm.trans hf)) (fun q => kf q ((if_neg q).symm.trans hf))
theorem zi_if_gt (hx : p.tables.exec = Jvm.exec) (hb : c.code = cc) {x : Int32} {off : Int} {tgt : Nat} (hdg : decode cc pc = .ok (.ifCond .gt off, 3)) (ht : (pc : Int) + off = (tgt : Int)) {A B o : β} (hf : (if 0 < x then A else B) = o)
    (kt : 0 < x → A = o → W p l e R s m args below meth c H locs cells slots Q (F0 m tgt ls rest)) (kf : ¬ 0 < x → B = o → W p l e R s m args below meth c H locs cells slots Q (F0 m (pc + 3) ls rest)) : W p l e R s m args below meth c H locs cells slots Q (F0 m pc ls (.int x :: rest)) :=
  lv_if_gt hx hb hdg ht (fun q => kt q ((if_pos q).symm.trans hf)) (fun q => kf q ((if_neg q).symm.trans hf))
theorem zi_if_le (hx : p.tables.exec = Jvm.exec) (hb : c.code = cc) {x : Int32} {off : Int} {tgt : Nat} (hdg : decode cc pc = .ok (.ifCond .le off, 3)) (ht : (pc : Int) + off = (tgt : Int)) {A B o : β} (hf : (if x ≤ 0 then A else B) = o)
    (kt : x ≤ 0 → A = o → W p l e R s m args below meth c H locs cells slots Q (F0 m tgt ls rest)) (kf : ¬ x ≤ 0 → B = o → W p l e R s m args below meth c H locs cells slots Q (F0 m (pc + 3) ls rest)) : W p l e R s m args below meth c H locs cells slots Q (F0 m pc ls (.int x :: rest)) :=
  lv_if_le hx hb hdg ht (fun q => kt q ((if_pos q).symm.trans hf)) (fun q => kf q ((if_neg q).symm.trans hf))
theorem zi_icmp_eq (hx : p.tables.exec = Jvm.exec) (hb : c.code = cc) {x y : Int32} {off : Int} {tgt : Nat} (hdg : decode cc pc = .ok (.if_icmp .eq off, 3)) (ht : (pc : Int) + off = (tgt : Int)) {A B o : β} (hf : (if x = y then A else B) = o)
    (kt : x = y → A = o → W p l e R s m args below meth c H locs cells slots Q (F0 m tgt ls rest)) (kf : ¬ x = y → B = o → W p l e R s m args below meth c H locs cells slots Q (F0 m (pc + 3) ls rest)) : W p l e R s m args below meth c H locs cells slots Q (F0 m pc ls (.int y :: .int x :: rest)) :=
  lv_icmp_eq hx hb hdg ht (fun q => kt q ((if_pos q).symm.trans hf)) (fun q => kf q ((if_neg q).symm.trans hf))
theorem zi_icmp_ne (hx : p.tables.exec = Jvm.exec) (hb : c.code = cc) {x y : Int32} {off : Int} {tgt : Nat} (hdg : decode cc pc = .ok (.if_icmp .ne off, 3)) (ht : (pc : Int) + off = (tgt : Int)) {A B o : β} (hf : (if x = y then A else B) = o)
    (kf : x = y → A = o → W p l e R s m args below meth c H locs cells slots Q (F0 m (pc + 3) ls rest)) (kt : ¬ x = y → B = o → W p l e R s m args below meth c H locs cells slots Q (F0 m tgt ls rest)) : W p l e R s m args below meth c H locs cells slots Q (F0 m pc ls (.int y :: .int x :: rest)) :=
  lv_icmp_ne hx hb hdg ht (fun q => kt q ((if_neg q).symm.trans hf)) (fun q => kf q ((if_pos q).symm.trans hf))
theorem zi_icmp_lt (hx : p.tables.exec = Jvm.exec) (hb : c.code = cc) {x y : Int32} {off : Int} {tgt : Nat} (hdg : decode cc pc = .ok (.if_icmp .lt off, 3)) (ht : (pc : Int) + off = (tgt : Int)) {A B o : β} (hf : (if x < y then A else B) = o)
    (kt : x < y → A = o → W p l e R s m args below meth c H locs cells slots Q (F0 m tgt ls rest)) (kf : ¬ x < y → B = o → W p l e R s m args below meth c H locs cells slots Q (F0 m (pc + 3) ls rest)) : W p l e R s m args below meth c H locs cells slots Q (F0 m pc ls (.int y :: .int x :: rest)) :=
  lv_icmp_lt hx hb hdg ht (fun q => kt q ((if_pos q).symm.trans hf)) (fun q => kf q ((if_neg q).symm.trans hf))
theorem zi_icmp_ge (hx : p.tables.exec = Jvm.exec) (hb : c.code = cc) {x y : Int32} {off : Int} {tgt : Nat} (hdg : decode cc pc = .ok (.if_icmp .ge off, 3)) (ht : (pc : Int) + off = (tgt : Int)) {A B o : β} (hf : (if y ≤ x then A else B) = o)
    (kt : y ≤ x → A = o → W p l e R s m args below meth c H locs cells slots Q (F0 m tgt ls rest)) (kf : ¬ y ≤ x → B = o → W p l e R s m args below meth c H locs cells slots Q (F0 m (pc + 3) ls rest)) : W p l e R s m args below meth c H locs cells slots Q (F0 m pc ls (.int y :: .int x :: rest)) :=
  lv_icmp_ge hx hb hdg ht (fun q => kt q ((if_pos q).symm.trans hf)) (fun q => kf q ((if_neg q).symm.trans hf))
theorem zi_icmp_gt (hx : p.tables.exec = Jvm.exec) (hb : c.code = cc) {x y : Int32} {off : Int} {tgt : Nat} (hdg : decode cc pc = .ok (.if_icmp .gt off, 3)) (ht : (pc : Int) + off = (tgt : Int)) {A B o : β} (hf : (if y < x then A else B) = o)
    (kt : y < x → A = o → W p l e R s m args below meth c H locs cells slots Q (F0 m tgt ls rest)) (kf : ¬ y < x → B = o → W p l e R s m args below meth c H locs cells slots Q (F0 m (pc + 3) ls rest)) : W p l e R s m args below meth c H locs cells slots Q (F0 m pc ls (.int y :: .int x :: rest)) :=
  lv_icmp_gt hx hb hdg ht (fun q => kt q ((if_pos q).symm.trans hf)) (fun q => kf q ((if_neg q).symm.trans hf))
theorem zi_icmp_le (hx : p.tables.exec = Jvm.exec) (hb : c.code = cc) {x y : Int32} {off : Int} {tgt : Nat} (hdg : decode cc pc = .ok (.if_icmp .le off, 3)) (ht : (pc : Int) + off = (tgt : Int)) {A B o : β} (hf : (if x ≤ y then A else B) = o)
    (kt : x ≤ y → A = o → W p l e R s m args below meth c H locs cells slots Q (F0 m tgt ls rest)) (kf : ¬ x ≤ y → B = o → W p l e R s m args below meth c H locs cells slots Q (F0 m (pc + 3) ls rest)) : W p l e R s m args below meth c H locs cells slots Q (F0 m pc ls (.int y :: .int x :: rest)) :=
  lv_icmp_le hx hb hdg ht (fun q => kt q ((if_pos q).symm.trans hf)) (fun q => kf q ((if_neg q).symm.trans hf))
theorem zi_c {c : Prop} {i : Decidable c} {P : Prop} {A B o : β} (hf : (if c then A else B) = o) (kt : c → A = o → P) (kf : ¬ c → B = o → P) : P := by
  by_cases h : c
  · rw [if_pos h] at hf
    exact kt h hf
  · rw [if_neg h] at hf
    exact kf h hf
theorem zn_i {x : Int32} {F : Int32 → β} {o : β} (hf : zlt x F = o) (k : ∀ y : Int32, F y = o → W p l e R s m args below meth c H locs cells slots Q (F0 m pc ls (.int y :: rest))) : W p l e R s m args below meth c H locs cells slots Q (F0 m pc ls (.int x :: rest)) := k x hf
theorem zn_l {x : Int64} {F : Int64 → β} {o : β} (hf : zlt x F = o) (k : ∀ y : Int64, F y = o → W p l e R s m args below meth c H locs cells slots Q (F0 m pc ls (.long y :: rest))) : W p l e R s m args below meth c H locs cells slots Q (F0 m pc ls (.long x :: rest)) := k x hf
theorem zi_inc (hx : p.tables.exec = Jvm.exec) (hb : c.code = cc) {i nL k : Nat} {n : Int} {x v : Int32} {lv : List (Nat × Value)} {lv' : Int32 → List (Nat × Value)} (hdg : decode cc pc = .ok (.iinc i n, 3)) (h : lv_has ls nL lv) (hk : lv[k]? = some (i, .int x)) (hv : x + Int32.ofInt n = v) (hn : i < nL) (hl : ∀ v, (i, Value.int v) :: lv.filter (fun q => !(q.1 == i) && !(q.1 + 1 == i && q.2.category == 2)) = lv' v) {F : Int32 → β} {o : β} (hf : zlt v F = o)
    (kk : ∀ (v : Int32) (ls : Array Slot), F v = o → lv_has ls nL (lv' v) → W p l e R s m args below meth c H locs cells slots Q (F0 m (pc + 3) ls rest)) : W p l e R s m args below meth c H locs cells slots Q (F0 m pc ls rest) :=
  lv_iinc (v := v) (lv' := lv' v) hx hb hdg h hk hv hn (hl v) (fun ls h2 => kk v ls hf h2)
theorem zdv_o {x y : Int32} {F : Int32 → Option β} {o : β} (hf : zdv x y F = some o) : ¬ y = 0 ∧ F (x / y) = some o := by
  unfold zdv at hf
  by_cases h : y = 0
  · rw [if_pos h] at hf
    cases hf
  · rw [if_neg h] at hf
    exact ⟨h, hf⟩
theorem zrm_o {x y : Int32} {F : Int32 → Option β} {o : β} (hf : zrm x y F = some o) : ¬ y = 0 ∧ F (x - x / y * y) = some o := by
  unfold zrm at hf
  by_cases h : y = 0
  · rw [if_pos h] at hf
    cases hf
  · rw [if_neg h] at hf
    exact ⟨h, hf⟩
theorem zdvL_o {x y : Int64} {F : Int64 → Option β} {o : β} (hf : zdvL x y F = some o) : ¬ y = 0 ∧ F (x / y) = some o := by
  unfold zdvL at hf
  by_cases h : y = 0
  · rw [if_pos h] at hf
    cases hf
  · rw [if_neg h] at hf
    exact ⟨h, hf⟩
theorem zrmL_o {x y : Int64} {F : Int64 → Option β} {o : β} (hf : zrmL x y F = some o) : ¬ y = 0 ∧ F (x - x / y * y) = some o := by
  unfold zrmL at hf
  by_cases h : y = 0
  · rw [if_pos h] at hf
    cases hf
  · rw [if_neg h] at hf
    exact ⟨h, hf⟩
theorem zd_i (hx : p.tables.exec = Jvm.exec) (hb : c.code = cc) {x y : Int32} {F : Int32 → Option β} (hf : zdv x y F = some o) (hdg : decode cc pc = .ok (.idiv, 1)) (kk : ∀ v, F v = some o → W p l e R s m args below meth c H locs cells slots Q (F0 m (pc + 1) ls (.int v :: rest))) : W p l e R s m args below meth c H locs cells slots Q (F0 m pc ls (.int y :: .int x :: rest)) := lv_idiv hx hb hdg (zdv_o hf).1 (kk _ (zdv_o hf).2)
theorem zd_r (hx : p.tables.exec = Jvm.exec) (hb : c.code = cc) {x y : Int32} {F : Int32 → Option β} (hf : zrm x y F = some o) (hdg : decode cc pc = .ok (.irem, 1)) (kk : ∀ v, F v = some o → W p l e R s m args below meth c H locs cells slots Q (F0 m (pc + 1) ls (.int v :: rest))) : W p l e R s m args below meth c H locs cells slots Q (F0 m pc ls (.int y :: .int x :: rest)) := lv_irem hx hb hdg (zrm_o hf).1 (kk _ (zrm_o hf).2)
theorem zd_iL (hx : p.tables.exec = Jvm.exec) (hb : c.code = cc) {x y : Int64} {F : Int64 → Option β} (hf : zdvL x y F = some o) (hdg : decode cc pc = .ok (.ldiv, 1)) (kk : ∀ v, F v = some o → W p l e R s m args below meth c H locs cells slots Q (F0 m (pc + 1) ls (.long v :: rest))) : W p l e R s m args below meth c H locs cells slots Q (F0 m pc ls (.long y :: .long x :: rest)) := lv_ldiv hx hb hdg (zdvL_o hf).1 (kk _ (zdvL_o hf).2)
theorem zd_rL (hx : p.tables.exec = Jvm.exec) (hb : c.code = cc) {x y : Int64} {F : Int64 → Option β} (hf : zrmL x y F = some o) (hdg : decode cc pc = .ok (.lrem, 1)) (kk : ∀ v, F v = some o → W p l e R s m args below meth c H locs cells slots Q (F0 m (pc + 1) ls (.long v :: rest))) : W p l e R s m args below meth c H locs cells slots Q (F0 m pc ls (.long y :: .long x :: rest)) := lv_lrem hx hb hdg (zrmL_o hf).1 (kk _ (zrmL_o hf).2)
/-! ends of methods -/
theorem zWo_post {t : State} (hW : zWo u D cI cJ adr s σ H locs) (ht : t.heap = H) : va_P D vwCl (zW u cI cJ adr σ) t.heap := by rw [ht]; exact hW.1
theorem zr_i (hx : p.tables.exec = Jvm.exec) (hb : c.code = cc) (hr : meth.sig.returnType = some .int) (hlk : meth.locks = false) (hW : zWo u D cI cJ adr s σ H locs) {v ro : Int32} {σo : zkS} (h1 : v = ro) (h2 : σ = σo) (hdg : decode cc pc = .ok (.ireturn, 1)) : W p l e R s m args below meth c H locs cells slots (MQ below (zQi u D cI cJ adr s.heap.size ro σo) args s cells slots (zA u adr s.heap.size)) (F0 m pc ls [.int v]) := by
  subst h1
  subst h2
  exact W.iret (v := v) hx hb hr (fun t ht hW1 => ⟨⟨v, (), rfl, rfl, zWo_post hW ht⟩, hW.2.F ht⟩) hW.2.2.2 hdg hlk
theorem zr_z (hx : p.tables.exec = Jvm.exec) (hb : c.code = cc) (hr : meth.sig.returnType = some .boolean) (hlk : meth.locks = false) (hW : zWo u D cI cJ adr s σ H locs) {v ro : Int32} {σo : zkS} (h01 : v = 0 ∨ v = 1) (h1 : v = ro) (h2 : σ = σo) (hdg : decode cc pc = .ok (.ireturn, 1)) : W p l e R s m args below meth c H locs cells slots (MQ below (zQi u D cI cJ adr s.heap.size ro σo) args s cells slots (zA u adr s.heap.size)) (F0 m pc ls [.int v]) := by
  subst h1
  subst h2
  exact W.zret (v := v) hx hb hr (z01 h01).1 (fun t ht hW1 => ⟨⟨v, (), rfl, rfl, zWo_post hW ht⟩, hW.2.F ht⟩) hW.2.2.2 hdg hlk
theorem zr_l (hx : p.tables.exec = Jvm.exec) (hb : c.code = cc) (hr : meth.sig.returnType = some .long) (hlk : meth.locks = false) (hW : zWo u D cI cJ adr s σ H locs) {v ro : Int64} {σo : zkS} (h1 : v = ro) (h2 : σ = σo) (hdg : decode cc pc = .ok (.lreturn, 1)) : W p l e R s m args below meth c H locs cells slots (MQ below (zQl u D cI cJ adr s.heap.size ro σo) args s cells slots (zA u adr s.heap.size)) (F0 m pc ls [.long v]) := by
  subst h1
  subst h2
  exact W.lret (v := v) hx hb hr (fun t ht hW1 => ⟨⟨v, (), rfl, rfl, zWo_post hW ht⟩, hW.2.F ht⟩) hW.2.2.2 hdg hlk
theorem zr_v (hx : p.tables.exec = Jvm.exec) (hb : c.code = cc) (hr : meth.sig.returnType = none) (hlk : meth.locks = false) (hW : zWo u D cI cJ adr s σ H locs) {σo : zkS} (h2 : σ = σo) (hdg : decode cc pc = .ok (.return_, 1)) : W p l e R s m args below meth c H locs cells slots (MQ below (zQv u D cI cJ adr s.heap.size σo) args s cells slots (zA u adr s.heap.size)) (F0 m pc ls []) := by
  subst h2
  exact W.vret hx hb hr (fun t ht hW1 => ⟨⟨(), rfl, trivial, zWo_post hW ht⟩, hW.2.F ht⟩) hW.2.2.2 hdg hlk
/-! a method's entry -/
theorem zen {y : MethodName} {ret : Option FieldType} {rm : Room} {Qc : Array Value → State → Outcome → State → Prop} {mc ms z : Nat} {av : List Value} {free : Addr → Prop} (hy : plainName y.cls = true) (hI : zInj u adr) (hsl : (lg_sl av).length ≤ nL)
    (body : ∀ (p : Program) (e : Env) (s : State) (m : MethodId) (args : Array Value) (below : List Frame) (meth : Method) (c : Code) (ls : Array Slot), zKx p s m c args cc y.cls nL u D cI cJ adr → meth.sig.returnType = ret → meth.locks = false → s.heap.size = z → lv_has ls nL (lv_args 0 av) → zWo u D cI cJ adr s σ s.heap [] →
      W p l e rm s m args below meth c s.heap [] 0 0 (MQ below Qc args s mc ms free) (F0 m 0 ls [])) : Met l y (Cond.code y cc nL ret :: zTb) rm (zPre u D cI cJ adr σ z av) Qc mc ms free := by
  refine Met.ofW (cc := cc) (maxL := nL) (ret := ret) hy rfl ?_
  intro p e s m args below meth c s₁ B hml hv
  obtain ⟨rfl, hsz, hP, hK, hN⟩ := hv
  have hts := atoms_spec (ws := Cond.code y cc nL ret :: zTb) B.pre
  rw [lg_entry_eq]
  exact body p e s m _ below meth c _ ⟨B.exec, B.bytes, hml, findClass_of_methodNamed B.named, fun w hw => hts w (List.mem_cons_of_mem _ hw), hK, hN, hI⟩ B.returns B.notSynchronized hsz (lv_entry av hsl) ⟨hP, va_S.rf⟩
/-! calls -/
def zNm (y : MethodName) (n : Nat) : Prop := y.cls ≠ "java/lang/invoke/MethodHandle" ∧ y.cls ≠ "java/lang/invoke/VarHandle" ∧ (parseMethodDescriptor y.desc).map (fun d => d.parameters.length) = some n
theorem zGood (hall : ∀ w ∈ zTb, goodWord w = true) {ws : List Cond} (h : ∀ w ∈ ws, w ∈ zTb) : GoodIn zTb ws := fun w hw => ⟨h w hw, good_of_word (hall w (h w hw))⟩
/-- what the tables say of a virtual call -/
def zCv (own : String) (index : Nat) (ci : Nat) (y : MethodName) (bytes : ByteArray) (maxL : Nat) (ret : Option FieldType) (n : Nat) : Prop := ∃ (T : u_T) (N : Nat), vwCl[ci]? = some (y.cls, T, N) ∧ ci < 9 ∧ GoodIn zTb (wsV own index y.cls y (Cond.code y bytes maxL ret :: zTb)) ∧ zNm y n
def zCs (own : String) (index : Nat) (y : MethodName) (bytes : ByteArray) (maxL : Nat) (ret : Option FieldType) (n : Nat) : Prop := GoodIn zTb (va_wsS own index y (Cond.code y bytes maxL ret :: zTb)) ∧ zNm y n
def zCn (own : String) (index : Nat) (y : MethodName) (host : String) (bytes : ByteArray) (maxL : Nat) (ret : Option FieldType) (n : Nat) : Prop := GoodIn zTb (Cond.code y bytes maxL ret :: zTb) ∧ (own, index, y, host) ∈ zNs ∧ Cond.initialized y.cls ∈ zTb ∧ Cond.static y ∈ zTb ∧ zNm y n
theorem zS_fix (hC : zKx p s m c args cc own nL u D cI cJ adr) : CallFix p m c cc nL s args zTb own := ⟨hC.1, hC.2.1, hC.2.2.1, hC.2.2.2.1, hC.2.2.2.2.1⟩
theorem zPre_of (hC : zKx p s m c args cc own nL u D cI cJ adr) (hW : zWo u D cI cJ adr s σ H locs) {As : List Value} : ∀ U : State, U.heap = H → s.WarmedH U.vm → zPre u D cI cJ adr σ H.size As As.toArray U := fun U hU hW1 => ⟨rfl, by rw [hU], by rw [hU]; exact hW.1, va_K.moved hW1.alike hC.2.2.2.2.2.1, fun w hw => va_Nw.warmM hW1 (hC.2.2.2.2.2.2.1 w hw)⟩
section ZC
variable {y : MethodName} {bytes : ByteArray} {maxL n index : Nat} {ret : Option FieldType} {rm : Room} {As : List Value} {Qc : Array Value → State → Outcome → State → Prop} {st0 : List Value}
theorem zrun_v (hC : zKx p s m c args cc own nL u D cI cJ adr) (hW : zWo u D cI cJ adr s σ H locs) {b ci : Nat} (hM : Met l y (Cond.code y bytes maxL ret :: zTb) rm (zPre u D cI cJ adr σ H.size (.ref (adr b) :: As)) Qc 0 0 (zA u adr H.size))
    (hv : zCv own index ci y bytes maxL ret n) (hk : zkd u b = ci) (ha : b < zsz u) (hn : As.length = n) (hR : (rm.cells = 0 ∧ rm.slots = 0) ∧ rm.frames + 1 ≤ R.frames ∧ 8 + (maxL + 11) + rm.locals ≤ R.locals) (hls : ls.size = nL) (hst : st0 = As.reverse ++ .ref (adr b) :: rest) (hro : (rest.map fun v => v.category).sum ≤ 8) (hdg : decode cc pc = .ok (.invokevirtual index, 3)) (hcs : cells ≤ R.cells ∧ slots ≤ R.slots) :
    va_Run p l e R s m args below meth c H locs cells slots 0 0 (F0 m pc ls st0) rest (Qc (Value.ref (adr b) :: As).toArray) (zA u adr H.size) := by
  obtain ⟨T, N, h1, h9, h2, h3⟩ := hv
  exact va_runV (As := As) (rest := rest) (zS_fix hC) hM (cwV n hC.2.2.2.2.1 h2 rfl hR.1.1 hR.1.2 ⟨rfl, h3⟩ hR.2) ⟨zPre_blind, va_recv hC.2.2.2.2.2.1 hW.1 h1 (zW_ob ha hk h9), zPre_of hC hW⟩ rfl hn hls hst (lv_room hro) hdg hcs
theorem zrun_s (hC : zKx p s m c args cc own nL u D cI cJ adr) (hW : zWo u D cI cJ adr s σ H locs) (hM : Met l y (Cond.code y bytes maxL ret :: zTb) rm (zPre u D cI cJ adr σ H.size As) Qc 0 0 (zA u adr H.size))
    (hv : zCs own index y bytes maxL ret n) (hn : As.length = n) (hR : (rm.cells = 0 ∧ rm.slots = 0) ∧ rm.frames + 1 ≤ R.frames ∧ 8 + (maxL + 11) + rm.locals ≤ R.locals) (hls : ls.size = nL) (hst : st0 = As.reverse ++ rest) (hro : (rest.map fun v => v.category).sum ≤ 8) (hdg : decode cc pc = .ok (.invokestatic index, 3)) (hcs : cells ≤ R.cells ∧ slots ≤ R.slots) :
    va_Run p l e R s m args below meth c H locs cells slots 0 0 (F0 m pc ls st0) rest (Qc As.toArray) (zA u adr H.size) :=
  va_runS (As := As) (rest := rest) (zS_fix hC) hM (va_cwS n hC.2.2.2.2.1 hv.1 rfl hR.1.1 hR.1.2 hv.2 hR.2) ⟨zPre_blind, zPre_of hC hW⟩ rfl hn hls hst (lv_room hro) hdg hcs
theorem zrun_n (hC : zKx p s m c args cc own nL u D cI cJ adr) (hW : zWo u D cI cJ adr s σ H locs) {host : String} (hM : Met l y (Cond.code y bytes maxL ret :: zTb) rm (zPre u D cI cJ adr σ H.size As) Qc 0 0 (zA u adr H.size))
    (hv : zCn own index y host bytes maxL ret n) (hn : As.length = n) (hR : (rm.cells = 0 ∧ rm.slots = 0) ∧ rm.frames + 1 ≤ R.frames ∧ 8 + (maxL + 11) + rm.locals ≤ R.locals) (hls : ls.size = nL) (hst : st0 = As.reverse ++ rest) (hro : (rest.map fun v => v.category).sum ≤ 8) (hdg : decode cc pc = .ok (.invokestatic index, 3)) (hcs : cells ≤ R.cells ∧ slots ≤ R.slots) :
    va_Run p l e R s m args below meth c H locs cells slots 0 0 (F0 m pc ls st0) rest (Qc As.toArray) (zA u adr H.size) :=
  va_runSN (As := As) (rest := rest) (zS_fix hC) hM ⟨va_cnB n hC.2.2.2.2.1 hv.1 rfl hR.1.1 hR.1.2 (hC.2.2.2.2.2.2.1 _ hv.2.1) (hC.2.2.2.2.1 _ hv.2.2.1) hv.2.2.2.2 hR.2, hC.2.2.2.2.1 _ hv.2.2.2.1, trivial⟩ ⟨zPre_blind, zPre_of hC hW⟩ rfl hn hls hst (lv_room hro) hdg hcs
theorem zA_lt {z : Nat} (hz : s.heap.size ≤ z) : ∀ q, zA u adr z q → zA u adr s.heap.size q := zA_up hz
variable {a : Array Value}
theorem zc_i (hW : zWo u D cI cJ adr s σ H locs) {r : Int32} {σ1 : zkS} (hr : va_Run p l e R s m args below meth c H locs cells slots 0 0 (F0 m pc ls st0) rest (zQi u D cI cJ adr H.size r σ1 a) (zA u adr H.size))
    (kk : ∀ (H1 : Heap) (locs1 : List Loc), zWo u D cI cJ adr s σ1 H1 locs1 → W p l e R s m args below meth c H1 locs1 cells slots Q (F0 m (pc + 3) ls (.int r :: rest))) : W p l e R s m args below meth c H locs cells slots Q (F0 m pc ls st0) := by
  refine va_calli hr hW.2 (fun q _ h => zA_up hW.2.1 q h) (fun q h => zA_up hW.2.1 q h) (fun r' _ t H1 locs1 ht hvm hw hB hz1 hk1 hS => ?_)
  subst hw
  subst ht
  exact kk _ locs1 ⟨hB, hS⟩
theorem zc_l (hW : zWo u D cI cJ adr s σ H locs) {r : Int64} {σ1 : zkS} (hr : va_Run p l e R s m args below meth c H locs cells slots 0 0 (F0 m pc ls st0) rest (zQl u D cI cJ adr H.size r σ1 a) (zA u adr H.size))
    (kk : ∀ (H1 : Heap) (locs1 : List Loc), zWo u D cI cJ adr s σ1 H1 locs1 → W p l e R s m args below meth c H1 locs1 cells slots Q (F0 m (pc + 3) ls (.long r :: rest))) : W p l e R s m args below meth c H locs cells slots Q (F0 m pc ls st0) := by
  refine va_calll hr hW.2 (fun q _ h => zA_up hW.2.1 q h) (fun q h => zA_up hW.2.1 q h) (fun r' _ t H1 locs1 ht hvm hw hB hz1 hk1 hS => ?_)
  subst hw
  subst ht
  exact kk _ locs1 ⟨hB, hS⟩
theorem zc_v (hW : zWo u D cI cJ adr s σ H locs) {σ1 : zkS} (hr : va_Run p l e R s m args below meth c H locs cells slots 0 0 (F0 m pc ls st0) rest (zQv u D cI cJ adr H.size σ1 a) (zA u adr H.size))
    (kk : ∀ (H1 : Heap) (locs1 : List Loc), zWo u D cI cJ adr s σ1 H1 locs1 → W p l e R s m args below meth c H1 locs1 cells slots Q (F0 m (pc + 3) ls rest)) : W p l e R s m args below meth c H locs cells slots Q (F0 m pc ls st0) := by
  refine va_callv hr hW.2 (fun q _ h => zA_up hW.2.1 q h) (fun q h => zA_up hW.2.1 q h) (fun _ t H1 locs1 ht hvm hw hB hz1 hk1 hS => ?_)
  subst ht
  exact kk _ locs1 ⟨hB, hS⟩
end ZC
theorem zlv_size {lv : List (Nat × Value)} (h : lv_has ls nL lv) : ls.size = nL := h.1
end ZR
/-! kinds of cells of the class's world, by where they may stand -/
def zG (b : Nat) : Prop := b = 2 ∨ b = 18 ∨ b = 33
def zK (b : Nat) : Prop := b = 8 ∨ b = 24 ∨ b = 39
def zH (b : Nat) : Prop := b = 11 ∨ b = 13 ∨ b = 15 ∨ b = 27 ∨ b = 29 ∨ b = 31
def zE (b : Nat) : Prop := b = 1 ∨ b = 17
/-- the model's three big rows -/
def zM (b : Nat) : Prop := b = 1 ∨ b = 2 ∨ b = 3
theorem zG_k {b : Nat} (h : zG b) : zkd 0 b = 0 := by rcases h with rfl | rfl | rfl <;> decide +kernel
theorem zG_s {b : Nat} (h : zG b) : b < zsz 0 := by rcases h with rfl | rfl | rfl <;> decide +kernel
theorem zG_1 {b : Nat} (h : zG b) : zAr 0 (b + 1) 24 := by rcases h with rfl | rfl | rfl <;> exact ⟨by decide +kernel, by decide +kernel, by decide +kernel⟩
theorem zG_2 {b : Nat} (h : zG b) : zAr 0 (b + 2) 24 := by rcases h with rfl | rfl | rfl <;> exact ⟨by decide +kernel, by decide +kernel, by decide +kernel⟩
theorem zG_3 {b : Nat} (h : zG b) : zAr 0 (b + 3) 24 := by rcases h with rfl | rfl | rfl <;> exact ⟨by decide +kernel, by decide +kernel, by decide +kernel⟩
theorem zG_4 {b : Nat} (h : zG b) : zAr 0 (b + 4) 144 := by rcases h with rfl | rfl | rfl <;> exact ⟨by decide +kernel, by decide +kernel, by decide +kernel⟩
theorem zG_5 {b : Nat} (h : zG b) : zAr 0 (b + 5) 4 := by rcases h with rfl | rfl | rfl <;> exact ⟨by decide +kernel, by decide +kernel, by decide +kernel⟩
theorem zK_k {b : Nat} (h : zK b) : zkd 0 b = 2 := by rcases h with rfl | rfl | rfl <;> decide +kernel
theorem zK_s {b : Nat} (h : zK b) : b < zsz 0 := by rcases h with rfl | rfl | rfl <;> decide +kernel
theorem zK_1 {b : Nat} (h : zK b) : zAr 0 (b + 1) 24 := by rcases h with rfl | rfl | rfl <;> exact ⟨by decide +kernel, by decide +kernel, by decide +kernel⟩
theorem zK_2 {b : Nat} (h : zK b) : zAr 0 (b + 2) 24 := by rcases h with rfl | rfl | rfl <;> exact ⟨by decide +kernel, by decide +kernel, by decide +kernel⟩
theorem zH_k {b : Nat} (h : zH b) : zkd 0 b = 3 := by rcases h with rfl | rfl | rfl | rfl | rfl | rfl <;> decide +kernel
theorem zH_s {b : Nat} (h : zH b) : b < zsz 0 := by rcases h with rfl | rfl | rfl | rfl | rfl | rfl <;> decide +kernel
theorem zH_1 {b : Nat} (h : zH b) : zAr 0 (b + 1) 30 := by rcases h with rfl | rfl | rfl | rfl | rfl | rfl <;> exact ⟨by decide +kernel, by decide +kernel, by decide +kernel⟩
theorem zE_k {b : Nat} (h : zE b) : zkd 0 b = 4 := by rcases h with rfl | rfl <;> decide +kernel
theorem zE_s {b : Nat} (h : zE b) : b < zsz 0 := by rcases h with rfl | rfl <;> decide +kernel
theorem zE_G {b : Nat} (h : zE b) : zG (b + 1) := by rcases h with rfl | rfl <;> simp [zG]
theorem zE_K {b : Nat} (h : zE b) : zK (b + 7) := by rcases h with rfl | rfl <;> simp [zK]
theorem zE_H1 {b : Nat} (h : zE b) : zH (b + 10) := by rcases h with rfl | rfl <;> simp [zH]
theorem zE_H2 {b : Nat} (h : zE b) : zH (b + 12) := by rcases h with rfl | rfl <;> simp [zH]
theorem zE_H3 {b : Nat} (h : zE b) : zH (b + 14) := by rcases h with rfl | rfl <;> simp [zH]
theorem zM_a {b : Nat} (h : zM b) : zAr 1 b 346 := by rcases h with rfl | rfl | rfl <;> exact ⟨by decide +kernel, by decide +kernel, by decide +kernel⟩
theorem zwsV {own : String} {index : Nat} {y : MethodName} {b : ByteArray} {n : Nat} {r : Option FieldType} (h1 : Cond.methodLink own index y ∈ zTb) (h2 : Cond.instanceMethod y ∈ zTb) (h3 : Cond.selects y.cls y y ∈ zTb) (h4 : Cond.initialized y.cls ∈ zTb) (h5 : Cond.code y b n r ∈ zTb) : GoodIn zTb (wsV own index y.cls y (Cond.code y b n r :: zTb)) := zGood zall (by
  intro w hw
  unfold wsV at hw
  rcases List.mem_append.mp hw with h | h
  · simp only [List.mem_cons, List.not_mem_nil, or_false] at h
    rcases h with rfl | rfl | rfl | rfl
    · exact h1
    · exact h2
    · exact h3
    · exact h4
  · rcases List.mem_cons.mp h with rfl | h
    · exact h5
    · exact h)
theorem zwsS {own : String} {index : Nat} {y : MethodName} {b : ByteArray} {n : Nat} {r : Option FieldType} (h1 : Cond.methodLink own index y ∈ zTb) (h2 : Cond.static y ∈ zTb) (h4 : Cond.initialized y.cls ∈ zTb) (h5 : Cond.code y b n r ∈ zTb) : GoodIn zTb (va_wsS own index y (Cond.code y b n r :: zTb)) := zGood zall (by
  intro w hw
  unfold va_wsS at hw
  rcases List.mem_append.mp hw with h | h
  · simp only [List.mem_cons, List.not_mem_nil, or_false] at h
    rcases h with rfl | rfl | rfl
    · exact h1
    · exact h2
    · exact h4
  · rcases List.mem_cons.mp h with rfl | h
    · exact h5
    · exact h)
theorem zwsN {y : MethodName} {b : ByteArray} {n : Nat} {r : Option FieldType} (h5 : Cond.code y b n r ∈ zTb) : GoodIn zTb (Cond.code y b n r :: zTb) := zGood zall (by
  intro w hw
  rcases List.mem_cons.mp hw with rfl | h
  · exact h5
  · exact h)
theorem zuws {C : String} {T : u_T} {n : Nat} (h : (u_ws C T n).all (fun w => decide (w ∈ lw_tbl) && goodWord w) = true) : ∀ w ∈ u_ws C T n, w ∈ zTb := by
  intro w hw
  have h1 := List.all_eq_true.mp h w hw
  simp only [Bool.and_eq_true, decide_eq_true_eq] at h1
  exact List.mem_filter.mpr h1
theorem iX0 : ∀ w ∈ u_ws RX0 TX0 (znf 0), w ∈ zTb := zuws (by decide +kernel)
theorem iX1 : ∀ w ∈ u_ws RX1 TX1 (znf 1), w ∈ zTb := zuws (by decide +kernel)
theorem iX2 : ∀ w ∈ u_ws RX2 TX2 (znf 2), w ∈ zTb := zuws (by decide +kernel)
theorem iX3 : ∀ w ∈ u_ws RX3 TX3 (znf 3), w ∈ zTb := zuws (by decide +kernel)
theorem iX4 : ∀ w ∈ u_ws RX4 TX4 (znf 4), w ∈ zTb := zuws (by decide +kernel)
theorem iX5 : ∀ w ∈ u_ws RX5 TX5 (znf 5), w ∈ zTb := zuws (by decide +kernel)
theorem iX6 : ∀ w ∈ u_ws RX6 TX6 (znf 6), w ∈ zTb := zuws (by decide +kernel)
theorem iX7 : ∀ w ∈ u_ws RX7 TX7 (znf 7), w ∈ zTb := zuws (by decide +kernel)
theorem iX8 : ∀ w ∈ u_ws RX8 TX8 (znf 8), w ∈ zTb := zuws (by decide +kernel)
end
