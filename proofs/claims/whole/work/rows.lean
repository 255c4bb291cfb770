section
-- ===== PART A: goes FIRST, ahead of the names: the tables' words, and 'selects' of the private methods out of them =====
/-- a private method of a class that the tables say can be made, by its rows of tables_1 -/
def lw_okq (q : MethodName × Nat) : Prop := (q.1.cls ≠ "java/lang/invoke/MethodHandle" ∧ q.1.cls ≠ "java/lang/invoke/VarHandle") ∧ Cond.instantiable q.1.cls q.2 ∈ tables_1 ∧ Cond.privateMethod q.1 ∈ tables_1 ∧ Cond.instanceMethod q.1 ∈ tables_1
theorem lw_p0 : lw_okq (⟨"GatePolynomials", "dropProof", "()V"⟩, 8) := ⟨⟨by decide +kernel, by decide +kernel⟩, List.mem_of_getElem? (i := 19) (by decide +kernel), List.mem_of_getElem? (i := 113) (by decide +kernel), List.mem_of_getElem? (i := 114) (by decide +kernel)⟩
theorem lw_p1 : lw_okq (⟨"GatePolynomials", "refuseTenthWire", "()V"⟩, 8) := ⟨⟨by decide +kernel, by decide +kernel⟩, List.mem_of_getElem? (i := 19) (by decide +kernel), List.mem_of_getElem? (i := 125) (by decide +kernel), List.mem_of_getElem? (i := 126) (by decide +kernel)⟩
theorem lw_p2 : lw_okq (⟨"java/lang/Throwable", "fillInStackTrace", "(I)Ljava/lang/Throwable;"⟩, 6) := ⟨⟨by decide +kernel, by decide +kernel⟩, List.mem_of_getElem? (i := 170) (by decide +kernel), List.mem_of_getElem? (i := 168) (by decide +kernel), List.mem_of_getElem? (i := 169) (by decide +kernel)⟩
theorem lw_p3 : lw_okq (⟨"GatePolynomials", "countNewWire", "()I"⟩, 8) := ⟨⟨by decide +kernel, by decide +kernel⟩, List.mem_of_getElem? (i := 19) (by decide +kernel), List.mem_of_getElem? (i := 203) (by decide +kernel), List.mem_of_getElem? (i := 204) (by decide +kernel)⟩
theorem lw_p4 : lw_okq (⟨"GatePolynomials", "isLiteral", "(I)Z"⟩, 8) := ⟨⟨by decide +kernel, by decide +kernel⟩, List.mem_of_getElem? (i := 19) (by decide +kernel), List.mem_of_getElem? (i := 215) (by decide +kernel), List.mem_of_getElem? (i := 216) (by decide +kernel)⟩
theorem lw_p5 : lw_okq (⟨"GatePolynomials$Gate", "setTermToValue", "(IIII)V"⟩, 6) := ⟨⟨by decide +kernel, by decide +kernel⟩, List.mem_of_getElem? (i := 43) (by decide +kernel), List.mem_of_getElem? (i := 239) (by decide +kernel), List.mem_of_getElem? (i := 240) (by decide +kernel)⟩
theorem lw_p6 : lw_okq (⟨"GatePolynomials$Gate", "outcome", "(III)I"⟩, 6) := ⟨⟨by decide +kernel, by decide +kernel⟩, List.mem_of_getElem? (i := 43) (by decide +kernel), List.mem_of_getElem? (i := 250) (by decide +kernel), List.mem_of_getElem? (i := 251) (by decide +kernel)⟩
theorem lw_p7 : lw_okq (⟨"GatePolynomials$Gate", "turnValuesToNumbers", "(I)V"⟩, 6) := ⟨⟨by decide +kernel, by decide +kernel⟩, List.mem_of_getElem? (i := 43) (by decide +kernel), List.mem_of_getElem? (i := 254) (by decide +kernel), List.mem_of_getElem? (i := 255) (by decide +kernel)⟩
theorem lw_p8 : lw_okq (⟨"GatePolynomials", "isSet", "(I)Z"⟩, 8) := ⟨⟨by decide +kernel, by decide +kernel⟩, List.mem_of_getElem? (i := 19) (by decide +kernel), List.mem_of_getElem? (i := 265) (by decide +kernel), List.mem_of_getElem? (i := 266) (by decide +kernel)⟩
theorem lw_p9 : lw_okq (⟨"GatePolynomials", "refuseOtherThanInputs", "(I)V"⟩, 8) := ⟨⟨by decide +kernel, by decide +kernel⟩, List.mem_of_getElem? (i := 19) (by decide +kernel), List.mem_of_getElem? (i := 282) (by decide +kernel), List.mem_of_getElem? (i := 283) (by decide +kernel)⟩
theorem lw_p10 : lw_okq (⟨"GatePolynomials", "wiresThatAreOne", "(I)I"⟩, 8) := ⟨⟨by decide +kernel, by decide +kernel⟩, List.mem_of_getElem? (i := 19) (by decide +kernel), List.mem_of_getElem? (i := 287) (by decide +kernel), List.mem_of_getElem? (i := 288) (by decide +kernel)⟩
theorem lw_p11 : lw_okq (⟨"GatePolynomials", "isGate", "(I)Z"⟩, 8) := ⟨⟨by decide +kernel, by decide +kernel⟩, List.mem_of_getElem? (i := 19) (by decide +kernel), List.mem_of_getElem? (i := 291) (by decide +kernel), List.mem_of_getElem? (i := 292) (by decide +kernel)⟩
theorem lw_p12 : lw_okq (⟨"GatePolynomials", "lineAt", "(I)LGatePolynomials$Polynomial;"⟩, 8) := ⟨⟨by decide +kernel, by decide +kernel⟩, List.mem_of_getElem? (i := 19) (by decide +kernel), List.mem_of_getElem? (i := 390) (by decide +kernel), List.mem_of_getElem? (i := 391) (by decide +kernel)⟩
theorem lw_p13 : lw_okq (⟨"GatePolynomials", "refuseWithoutProof", "()V"⟩, 8) := ⟨⟨by decide +kernel, by decide +kernel⟩, List.mem_of_getElem? (i := 19) (by decide +kernel), List.mem_of_getElem? (i := 394) (by decide +kernel), List.mem_of_getElem? (i := 395) (by decide +kernel)⟩
theorem lw_p14 : lw_okq (⟨"GatePolynomials", "refuseSetOutside", "(I)V"⟩, 8) := ⟨⟨by decide +kernel, by decide +kernel⟩, List.mem_of_getElem? (i := 19) (by decide +kernel), List.mem_of_getElem? (i := 431) (by decide +kernel), List.mem_of_getElem? (i := 432) (by decide +kernel)⟩
theorem lw_p15 : lw_okq (⟨"GatePolynomialsModel", "isLiteral", "(I)Z"⟩, 14) := ⟨⟨by decide +kernel, by decide +kernel⟩, List.mem_of_getElem? (i := 492) (by decide +kernel), List.mem_of_getElem? (i := 556) (by decide +kernel), List.mem_of_getElem? (i := 557) (by decide +kernel)⟩
def lw_privs_1 : List (MethodName × Nat) := [(⟨"GatePolynomials", "dropProof", "()V"⟩, 8), (⟨"GatePolynomials", "refuseTenthWire", "()V"⟩, 8), (⟨"java/lang/Throwable", "fillInStackTrace", "(I)Ljava/lang/Throwable;"⟩, 6), (⟨"GatePolynomials", "countNewWire", "()I"⟩, 8), (⟨"GatePolynomials", "isLiteral", "(I)Z"⟩, 8), (⟨"GatePolynomials$Gate", "setTermToValue", "(IIII)V"⟩, 6), (⟨"GatePolynomials$Gate", "outcome", "(III)I"⟩, 6), (⟨"GatePolynomials$Gate", "turnValuesToNumbers", "(I)V"⟩, 6), (⟨"GatePolynomials", "isSet", "(I)Z"⟩, 8), (⟨"GatePolynomials", "refuseOtherThanInputs", "(I)V"⟩, 8), (⟨"GatePolynomials", "wiresThatAreOne", "(I)I"⟩, 8), (⟨"GatePolynomials", "isGate", "(I)Z"⟩, 8), (⟨"GatePolynomials", "lineAt", "(I)LGatePolynomials$Polynomial;"⟩, 8), (⟨"GatePolynomials", "refuseWithoutProof", "()V"⟩, 8), (⟨"GatePolynomials", "refuseSetOutside", "(I)V"⟩, 8), (⟨"GatePolynomialsModel", "isLiteral", "(I)Z"⟩, 14)]
theorem lw_r1 : ∀ q ∈ lw_privs_1, lw_okq q := List.forall_mem_cons.mpr ⟨lw_p0, List.forall_mem_cons.mpr ⟨lw_p1, List.forall_mem_cons.mpr ⟨lw_p2, List.forall_mem_cons.mpr ⟨lw_p3, List.forall_mem_cons.mpr ⟨lw_p4, List.forall_mem_cons.mpr ⟨lw_p5, List.forall_mem_cons.mpr ⟨lw_p6, List.forall_mem_cons.mpr ⟨lw_p7, List.forall_mem_cons.mpr ⟨lw_p8, List.forall_mem_cons.mpr ⟨lw_p9, List.forall_mem_cons.mpr ⟨lw_p10, List.forall_mem_cons.mpr ⟨lw_p11, List.forall_mem_cons.mpr ⟨lw_p12, List.forall_mem_cons.mpr ⟨lw_p13, List.forall_mem_cons.mpr ⟨lw_p14, List.forall_mem_cons.mpr ⟨lw_p15, fun _ h => absurd h List.not_mem_nil⟩⟩⟩⟩⟩⟩⟩⟩⟩⟩⟩⟩⟩⟩⟩⟩
theorem lw_p16 : lw_okq (⟨"GatePolynomialsModel", "areInputs", "(I)Z"⟩, 14) := ⟨⟨by decide +kernel, by decide +kernel⟩, List.mem_of_getElem? (i := 492) (by decide +kernel), List.mem_of_getElem? (i := 568) (by decide +kernel), List.mem_of_getElem? (i := 569) (by decide +kernel)⟩
theorem lw_p17 : lw_okq (⟨"GatePolynomialsModel", "isSet", "(I)Z"⟩, 14) := ⟨⟨by decide +kernel, by decide +kernel⟩, List.mem_of_getElem? (i := 492) (by decide +kernel), List.mem_of_getElem? (i := 572) (by decide +kernel), List.mem_of_getElem? (i := 573) (by decide +kernel)⟩
theorem lw_p18 : lw_okq (⟨"GatePolynomialsModel", "settled", "(I)I"⟩, 14) := ⟨⟨by decide +kernel, by decide +kernel⟩, List.mem_of_getElem? (i := 492) (by decide +kernel), List.mem_of_getElem? (i := 576) (by decide +kernel), List.mem_of_getElem? (i := 577) (by decide +kernel)⟩
theorem lw_p19 : lw_okq (⟨"GatePolynomialsModel", "made", "(II)I"⟩, 14) := ⟨⟨by decide +kernel, by decide +kernel⟩, List.mem_of_getElem? (i := 492) (by decide +kernel), List.mem_of_getElem? (i := 580) (by decide +kernel), List.mem_of_getElem? (i := 581) (by decide +kernel)⟩
theorem lw_p20 : lw_okq (⟨"GatePolynomialsModel", "claimed", "(I)J"⟩, 14) := ⟨⟨by decide +kernel, by decide +kernel⟩, List.mem_of_getElem? (i := 492) (by decide +kernel), List.mem_of_getElem? (i := 591) (by decide +kernel), List.mem_of_getElem? (i := 592) (by decide +kernel)⟩
theorem lw_p21 : lw_okq (⟨"GatePolynomialsModel", "derived", "(Z)Z"⟩, 14) := ⟨⟨by decide +kernel, by decide +kernel⟩, List.mem_of_getElem? (i := 492) (by decide +kernel), List.mem_of_getElem? (i := 603) (by decide +kernel), List.mem_of_getElem? (i := 604) (by decide +kernel)⟩
theorem lw_p22 : lw_okq (⟨"GatePolynomialsModel", "gates", "()I"⟩, 14) := ⟨⟨by decide +kernel, by decide +kernel⟩, List.mem_of_getElem? (i := 492) (by decide +kernel), List.mem_of_getElem? (i := 607) (by decide +kernel), List.mem_of_getElem? (i := 608) (by decide +kernel)⟩
theorem lw_p23 : lw_okq (⟨"GatePolynomialsModel", "gateWire", "(I)I"⟩, 14) := ⟨⟨by decide +kernel, by decide +kernel⟩, List.mem_of_getElem? (i := 492) (by decide +kernel), List.mem_of_getElem? (i := 611) (by decide +kernel), List.mem_of_getElem? (i := 612) (by decide +kernel)⟩
theorem lw_p24 : lw_okq (⟨"GatePolynomialsModel", "eliminated", "(I)I"⟩, 14) := ⟨⟨by decide +kernel, by decide +kernel⟩, List.mem_of_getElem? (i := 492) (by decide +kernel), List.mem_of_getElem? (i := 615) (by decide +kernel), List.mem_of_getElem? (i := 616) (by decide +kernel)⟩
theorem lw_p25 : lw_okq (⟨"GatePolynomialsModel", "redirected", "(II)I"⟩, 14) := ⟨⟨by decide +kernel, by decide +kernel⟩, List.mem_of_getElem? (i := 492) (by decide +kernel), List.mem_of_getElem? (i := 619) (by decide +kernel), List.mem_of_getElem? (i := 620) (by decide +kernel)⟩
theorem lw_p26 : lw_okq (⟨"GatePolynomialsModel", "coefficients", "()I"⟩, 14) := ⟨⟨by decide +kernel, by decide +kernel⟩, List.mem_of_getElem? (i := 492) (by decide +kernel), List.mem_of_getElem? (i := 623) (by decide +kernel), List.mem_of_getElem? (i := 624) (by decide +kernel)⟩
theorem lw_p27 : lw_okq (⟨"GatePolynomialsModel", "keep", "(I)V"⟩, 14) := ⟨⟨by decide +kernel, by decide +kernel⟩, List.mem_of_getElem? (i := 492) (by decide +kernel), List.mem_of_getElem? (i := 627) (by decide +kernel), List.mem_of_getElem? (i := 628) (by decide +kernel)⟩
theorem lw_p28 : lw_okq (⟨"GatePolynomialsModel", "lack", "(I)I"⟩, 14) := ⟨⟨by decide +kernel, by decide +kernel⟩, List.mem_of_getElem? (i := 492) (by decide +kernel), List.mem_of_getElem? (i := 639) (by decide +kernel), List.mem_of_getElem? (i := 640) (by decide +kernel)⟩
theorem lw_p29 : lw_okq (⟨"GatePolynomialsModel", "find", "(II)I"⟩, 14) := ⟨⟨by decide +kernel, by decide +kernel⟩, List.mem_of_getElem? (i := 492) (by decide +kernel), List.mem_of_getElem? (i := 647) (by decide +kernel), List.mem_of_getElem? (i := 648) (by decide +kernel)⟩
theorem lw_p30 : lw_okq (⟨"GatePolynomialsModel", "has", "(II)J"⟩, 14) := ⟨⟨by decide +kernel, by decide +kernel⟩, List.mem_of_getElem? (i := 492) (by decide +kernel), List.mem_of_getElem? (i := 655) (by decide +kernel), List.mem_of_getElem? (i := 656) (by decide +kernel)⟩
theorem lw_p31 : lw_okq (⟨"GatePolynomialsModel", "right", "(I)Z"⟩, 14) := ⟨⟨by decide +kernel, by decide +kernel⟩, List.mem_of_getElem? (i := 492) (by decide +kernel), List.mem_of_getElem? (i := 667) (by decide +kernel), List.mem_of_getElem? (i := 668) (by decide +kernel)⟩
def lw_privs_2 : List (MethodName × Nat) := [(⟨"GatePolynomialsModel", "areInputs", "(I)Z"⟩, 14), (⟨"GatePolynomialsModel", "isSet", "(I)Z"⟩, 14), (⟨"GatePolynomialsModel", "settled", "(I)I"⟩, 14), (⟨"GatePolynomialsModel", "made", "(II)I"⟩, 14), (⟨"GatePolynomialsModel", "claimed", "(I)J"⟩, 14), (⟨"GatePolynomialsModel", "derived", "(Z)Z"⟩, 14), (⟨"GatePolynomialsModel", "gates", "()I"⟩, 14), (⟨"GatePolynomialsModel", "gateWire", "(I)I"⟩, 14), (⟨"GatePolynomialsModel", "eliminated", "(I)I"⟩, 14), (⟨"GatePolynomialsModel", "redirected", "(II)I"⟩, 14), (⟨"GatePolynomialsModel", "coefficients", "()I"⟩, 14), (⟨"GatePolynomialsModel", "keep", "(I)V"⟩, 14), (⟨"GatePolynomialsModel", "lack", "(I)I"⟩, 14), (⟨"GatePolynomialsModel", "find", "(II)I"⟩, 14), (⟨"GatePolynomialsModel", "has", "(II)J"⟩, 14), (⟨"GatePolynomialsModel", "right", "(I)Z"⟩, 14)]
theorem lw_r2 : ∀ q ∈ lw_privs_2, lw_okq q := List.forall_mem_cons.mpr ⟨lw_p16, List.forall_mem_cons.mpr ⟨lw_p17, List.forall_mem_cons.mpr ⟨lw_p18, List.forall_mem_cons.mpr ⟨lw_p19, List.forall_mem_cons.mpr ⟨lw_p20, List.forall_mem_cons.mpr ⟨lw_p21, List.forall_mem_cons.mpr ⟨lw_p22, List.forall_mem_cons.mpr ⟨lw_p23, List.forall_mem_cons.mpr ⟨lw_p24, List.forall_mem_cons.mpr ⟨lw_p25, List.forall_mem_cons.mpr ⟨lw_p26, List.forall_mem_cons.mpr ⟨lw_p27, List.forall_mem_cons.mpr ⟨lw_p28, List.forall_mem_cons.mpr ⟨lw_p29, List.forall_mem_cons.mpr ⟨lw_p30, List.forall_mem_cons.mpr ⟨lw_p31, fun _ h => absurd h List.not_mem_nil⟩⟩⟩⟩⟩⟩⟩⟩⟩⟩⟩⟩⟩⟩⟩⟩
theorem lw_p32 : lw_okq (⟨"GatePolynomialsModel", "values", "(I)V"⟩, 14) := ⟨⟨by decide +kernel, by decide +kernel⟩, List.mem_of_getElem? (i := 492) (by decide +kernel), List.mem_of_getElem? (i := 671) (by decide +kernel), List.mem_of_getElem? (i := 672) (by decide +kernel)⟩
def lw_privs_3 : List (MethodName × Nat) := [(⟨"GatePolynomialsModel", "values", "(I)V"⟩, 14)]
theorem lw_r3 : ∀ q ∈ lw_privs_3, lw_okq q := List.forall_mem_cons.mpr ⟨lw_p32, fun _ h => absurd h List.not_mem_nil⟩
def lw_privs : List (MethodName × Nat) := lw_privs_1 ++ (lw_privs_2 ++ (lw_privs_3))
def lw_tbl : List Cond := k2_sels lw_privs ++ tables_1
theorem lw_privs_ok : ∀ q ∈ lw_privs, lw_okq q := by
  show ∀ q ∈ lw_privs_1 ++ (lw_privs_2 ++ (lw_privs_3)), lw_okq q
  exact List.forall_mem_append.mpr ⟨lw_r1, List.forall_mem_append.mpr ⟨lw_r2, lw_r3⟩⟩

def RX0 : String := "GatePolynomials$Gate"
def TX0 : u_T := fun k => match k with
  | 0 => ("GatePolynomials$Gate", "kind", "I", false)
  | 1 => ("GatePolynomials$Gate", "a", "I", false)
  | 2 => ("GatePolynomials$Gate", "b", "I", false)
  | 3 => ("GatePolynomials$Gate", "c", "I", false)
  | 4 => ("GatePolynomials$Gate", "termSets", "[I", true)
  | _ => ("GatePolynomials$Gate", "termNumbers", "[J", true)
def tyX0 : Nat → FieldType := fun k => match k with
  | 0 => .int
  | 1 => .int
  | 2 => .int
  | 3 => .int
  | 4 => .array .int
  | _ => .array .long
abbrev wsX00 : List Cond := u_ws RX0 TX0 6
theorem nmX0 : ∀ a, a < 6 → ∀ b, b < 6 → a ≠ b → (TX0 a).2.1 ≠ (TX0 b).2.1 := by decide +kernel
theorem tyX0_ok : ∀ k, k < 6 → parseFieldDescriptor (TX0 k).2.2.1 = some (tyX0 k) := by decide +kernel
abbrev cX0_init : ByteArray := prog_2_method_1_code
def yX0_init : MethodName := ⟨RX0, "<init>", "()V"⟩
abbrev cX0_become : ByteArray := prog_2_method_2_code
def yX0_become : MethodName := ⟨RX0, "become", "(IIII)V"⟩
abbrev cX0_valueWhere : ByteArray := prog_2_method_3_code
def yX0_valueWhere : MethodName := ⟨RX0, "valueWhere", "(I)I"⟩
abbrev cX0_addProduct : ByteArray := prog_2_method_4_code
def yX0_addProduct : MethodName := ⟨RX0, "addProduct", "(LGatePolynomials$Polynomial;IJ)V"⟩
abbrev cX0_setTermToValue : ByteArray := prog_2_method_5_code
def yX0_setTermToValue : MethodName := ⟨RX0, "setTermToValue", "(IIII)V"⟩
abbrev cX0_turnValuesToNumbers : ByteArray := prog_2_method_6_code
def yX0_turnValuesToNumbers : MethodName := ⟨RX0, "turnValuesToNumbers", "(I)V"⟩
abbrev cX0_outcome : ByteArray := prog_2_method_7_code
def yX0_outcome : MethodName := ⟨RX0, "outcome", "(III)I"⟩
abbrev cX0_literalWhere : ByteArray := prog_2_method_8_code
def yX0_literalWhere : MethodName := ⟨RX0, "literalWhere", "(II)I"⟩
abbrev cX0_literalFor : ByteArray := prog_2_method_9_code
def yX0_literalFor : MethodName := ⟨RX0, "literalFor", "(II)I"⟩
abbrev cX0_wireBit : ByteArray := prog_2_method_10_code
def yX0_wireBit : MethodName := ⟨RX0, "wireBit", "(I)I"⟩
def RX1 : String := "GatePolynomials$Polynomial"
def TX1 : u_T := fun k => match k with
  | 0 => ("GatePolynomials$Polynomial", "numbers", "[J", true)
  | _ => ("GatePolynomials$Polynomial", "monomials", "I", false)
def tyX1 : Nat → FieldType := fun k => match k with
  | 0 => .array .long
  | _ => .int
abbrev wsX10 : List Cond := u_ws RX1 TX1 2
theorem nmX1 : ∀ a, a < 2 → ∀ b, b < 2 → a ≠ b → (TX1 a).2.1 ≠ (TX1 b).2.1 := by decide +kernel
theorem tyX1_ok : ∀ k, k < 2 → parseFieldDescriptor (TX1 k).2.2.1 = some (tyX1 k) := by decide +kernel
abbrev cX1_init : ByteArray := prog_3_method_1_code
def yX1_init : MethodName := ⟨RX1, "<init>", "()V"⟩
abbrev cX1_erase : ByteArray := prog_3_method_2_code
def yX1_erase : MethodName := ⟨RX1, "erase", "()V"⟩
abbrev cX1_becomeCopy : ByteArray := prog_3_method_3_code
def yX1_becomeCopy : MethodName := ⟨RX1, "becomeCopy", "(LGatePolynomials$Polynomial;)V"⟩
abbrev cX1_becomeElimination : ByteArray := prog_3_method_4_code
def yX1_becomeElimination : MethodName := ⟨RX1, "becomeElimination", "(LGatePolynomials$Polynomial;ILGatePolynomials$Gate;)V"⟩
abbrev cX1_increase : ByteArray := prog_3_method_5_code
def yX1_increase : MethodName := ⟨RX1, "increase", "(IJ)J"⟩
abbrev cX1_numberOf : ByteArray := prog_3_method_6_code
def yX1_numberOf : MethodName := ⟨RX1, "numberOf", "(I)J"⟩
abbrev cX1_monomialCount : ByteArray := prog_3_method_7_code
def yX1_monomialCount : MethodName := ⟨RX1, "monomialCount", "()I"⟩
abbrev cX1_monomialAt : ByteArray := prog_3_method_8_code
def yX1_monomialAt : MethodName := ⟨RX1, "monomialAt", "(I)I"⟩
abbrev cX1_leastMonomialOfFewestWires : ByteArray := prog_3_method_9_code
def yX1_leastMonomialOfFewestWires : MethodName := ⟨RX1, "leastMonomialOfFewestWires", "()I"⟩
abbrev cX1_valueWhere : ByteArray := prog_3_method_10_code
def yX1_valueWhere : MethodName := ⟨RX1, "valueWhere", "(I)J"⟩
abbrev cX1_isSameAs : ByteArray := prog_3_method_11_code
def yX1_isSameAs : MethodName := ⟨RX1, "isSameAs", "(LGatePolynomials$Polynomial;)Z"⟩
def RX2 : String := "GatePolynomials"
def TX2 : u_T := fun k => match k with
  | 0 => ("GatePolynomials", "gates", "[LGatePolynomials$Gate;", true)
  | 1 => ("GatePolynomials", "wireCount", "I", false)
  | 2 => ("GatePolynomials", "inputWires", "I", false)
  | 3 => ("GatePolynomials", "claim", "LGatePolynomials$Polynomial;", true)
  | 4 => ("GatePolynomials", "additions", "I", false)
  | 5 => ("GatePolynomials", "proof", "[LGatePolynomials$Polynomial;", true)
  | 6 => ("GatePolynomials", "lineCount", "I", false)
  | _ => ("GatePolynomials", "expected", "LGatePolynomials$Polynomial;", true)
def tyX2 : Nat → FieldType := fun k => match k with
  | 0 => .array (.object "GatePolynomials$Gate")
  | 1 => .int
  | 2 => .int
  | 3 => .object "GatePolynomials$Polynomial"
  | 4 => .int
  | 5 => .array (.object "GatePolynomials$Polynomial")
  | 6 => .int
  | _ => .object "GatePolynomials$Polynomial"
abbrev wsX20 : List Cond := u_ws RX2 TX2 8
theorem nmX2 : ∀ a, a < 8 → ∀ b, b < 8 → a ≠ b → (TX2 a).2.1 ≠ (TX2 b).2.1 := by decide +kernel
theorem tyX2_ok : ∀ k, k < 8 → parseFieldDescriptor (TX2 k).2.2.1 = some (tyX2 k) := by decide +kernel
abbrev cX2_init : ByteArray := prog_1_method_1_code
def yX2_init : MethodName := ⟨RX2, "<init>", "()V"⟩
abbrev cX2_input : ByteArray := prog_1_method_2_code
def yX2_input : MethodName := ⟨RX2, "input", "()I"⟩
abbrev cX2_gate : ByteArray := prog_1_method_3_code
def yX2_gate : MethodName := ⟨RX2, "gate", "(IIII)I"⟩
abbrev cX2_wires : ByteArray := prog_1_method_4_code
def yX2_wires : MethodName := ⟨RX2, "wires", "()I"⟩
abbrev cX2_add : ByteArray := prog_1_method_5_code
def yX2_add : MethodName := ⟨RX2, "add", "(II)I"⟩
abbrev cX2_simulate : ByteArray := prog_1_method_6_code
def yX2_simulate : MethodName := ⟨RX2, "simulate", "(I)I"⟩
abbrev cX2_evaluate : ByteArray := prog_1_method_7_code
def yX2_evaluate : MethodName := ⟨RX2, "evaluate", "(I)J"⟩
abbrev cX2_prove : ByteArray := prog_1_method_8_code
def yX2_prove : MethodName := ⟨RX2, "prove", "()I"⟩
abbrev cX2_lines : ByteArray := prog_1_method_9_code
def yX2_lines : MethodName := ⟨RX2, "lines", "()I"⟩
abbrev cX2_size : ByteArray := prog_1_method_10_code
def yX2_size : MethodName := ⟨RX2, "size", "(I)I"⟩
abbrev cX2_monomial : ByteArray := prog_1_method_11_code
def yX2_monomial : MethodName := ⟨RX2, "monomial", "(II)I"⟩
abbrev cX2_coefficient : ByteArray := prog_1_method_12_code
def yX2_coefficient : MethodName := ⟨RX2, "coefficient", "(II)J"⟩
abbrev cX2_spoil : ByteArray := prog_1_method_13_code
def yX2_spoil : MethodName := ⟨RX2, "spoil", "(III)J"⟩
abbrev cX2_check : ByteArray := prog_1_method_14_code
def yX2_check : MethodName := ⟨RX2, "check", "()I"⟩
abbrev cX2_witness : ByteArray := prog_1_method_15_code
def yX2_witness : MethodName := ⟨RX2, "witness", "()I"⟩
abbrev cX2_clear : ByteArray := prog_1_method_16_code
def yX2_clear : MethodName := ⟨RX2, "clear", "()I"⟩
abbrev cX2_countNewWire : ByteArray := prog_1_method_17_code
def yX2_countNewWire : MethodName := ⟨RX2, "countNewWire", "()I"⟩
abbrev cX2_dropProof : ByteArray := prog_1_method_18_code
def yX2_dropProof : MethodName := ⟨RX2, "dropProof", "()V"⟩
abbrev cX2_refuseTenthWire : ByteArray := prog_1_method_19_code
def yX2_refuseTenthWire : MethodName := ⟨RX2, "refuseTenthWire", "()V"⟩
abbrev cX2_refuseOtherThanInputs : ByteArray := prog_1_method_20_code
def yX2_refuseOtherThanInputs : MethodName := ⟨RX2, "refuseOtherThanInputs", "(I)V"⟩
abbrev cX2_refuseWithoutProof : ByteArray := prog_1_method_21_code
def yX2_refuseWithoutProof : MethodName := ⟨RX2, "refuseWithoutProof", "()V"⟩
abbrev cX2_refuseSetOutside : ByteArray := prog_1_method_22_code
def yX2_refuseSetOutside : MethodName := ⟨RX2, "refuseSetOutside", "(I)V"⟩
abbrev cX2_lineAt : ByteArray := prog_1_method_23_code
def yX2_lineAt : MethodName := ⟨RX2, "lineAt", "(I)LGatePolynomials$Polynomial;"⟩
abbrev cX2_isSet : ByteArray := prog_1_method_24_code
def yX2_isSet : MethodName := ⟨RX2, "isSet", "(I)Z"⟩
abbrev cX2_isLiteral : ByteArray := prog_1_method_25_code
def yX2_isLiteral : MethodName := ⟨RX2, "isLiteral", "(I)Z"⟩
abbrev cX2_isGate : ByteArray := prog_1_method_26_code
def yX2_isGate : MethodName := ⟨RX2, "isGate", "(I)Z"⟩
abbrev cX2_wiresThatAreOne : ByteArray := prog_1_method_27_code
def yX2_wiresThatAreOne : MethodName := ⟨RX2, "wiresThatAreOne", "(I)I"⟩
abbrev cX2_bitOf : ByteArray := prog_1_method_28_code
def yX2_bitOf : MethodName := ⟨RX2, "bitOf", "(I)I"⟩
def RX3 : String := "GatePolynomialsModel"
def TX3 : u_T := fun k => match k with
  | 0 => ("GatePolynomialsModel", "thrown", "I", false)
  | 1 => ("GatePolynomialsModel", "wires", "I", false)
  | 2 => ("GatePolynomialsModel", "kind", "[I", false)
  | 3 => ("GatePolynomialsModel", "first", "[I", false)
  | 4 => ("GatePolynomialsModel", "second", "[I", false)
  | 5 => ("GatePolynomialsModel", "third", "[I", false)
  | 6 => ("GatePolynomialsModel", "added", "I", false)
  | 7 => ("GatePolynomialsModel", "claim", "[J", false)
  | 8 => ("GatePolynomialsModel", "lines", "I", false)
  | 9 => ("GatePolynomialsModel", "sizes", "[I", false)
  | 10 => ("GatePolynomialsModel", "sets", "[I", false)
  | 11 => ("GatePolynomialsModel", "numbers", "[J", false)
  | 12 => ("GatePolynomialsModel", "work", "[J", false)
  | _ => ("GatePolynomialsModel", "from", "[J", false)
def tyX3 : Nat → FieldType := fun k => match k with
  | 0 => .int
  | 1 => .int
  | 2 => .array .int
  | 3 => .array .int
  | 4 => .array .int
  | 5 => .array .int
  | 6 => .int
  | 7 => .array .long
  | 8 => .int
  | 9 => .array .int
  | 10 => .array .int
  | 11 => .array .long
  | 12 => .array .long
  | _ => .array .long
abbrev wsX30 : List Cond := u_ws RX3 TX3 14
theorem nmX3 : ∀ a, a < 14 → ∀ b, b < 14 → a ≠ b → (TX3 a).2.1 ≠ (TX3 b).2.1 := by decide +kernel
theorem tyX3_ok : ∀ k, k < 14 → parseFieldDescriptor (TX3 k).2.2.1 = some (tyX3 k) := by decide +kernel
abbrev cX3_init : ByteArray := prog_5_method_1_code
def yX3_init : MethodName := ⟨RX3, "<init>", "()V"⟩
abbrev cX3_thrown : ByteArray := prog_5_method_2_code
def yX3_thrown : MethodName := ⟨RX3, "thrown", "()I"⟩
abbrev cX3_within : ByteArray := prog_5_method_3_code
def yX3_within : MethodName := ⟨RX3, "within", "(III)Z"⟩
abbrev cX3_isSet : ByteArray := prog_5_method_4_code
def yX3_isSet : MethodName := ⟨RX3, "isSet", "(I)Z"⟩
abbrev cX3_input : ByteArray := prog_5_method_5_code
def yX3_input : MethodName := ⟨RX3, "input", "()I"⟩
abbrev cX3_isLiteral : ByteArray := prog_5_method_6_code
def yX3_isLiteral : MethodName := ⟨RX3, "isLiteral", "(I)Z"⟩
abbrev cX3_gate : ByteArray := prog_5_method_7_code
def yX3_gate : MethodName := ⟨RX3, "gate", "(IIII)I"⟩
abbrev cX3_wires : ByteArray := prog_5_method_8_code
def yX3_wires : MethodName := ⟨RX3, "wires", "()I"⟩
abbrev cX3_literal : ByteArray := prog_5_method_9_code
def yX3_literal : MethodName := ⟨RX3, "literal", "(II)I"⟩
abbrev cX3_made : ByteArray := prog_5_method_10_code
def yX3_made : MethodName := ⟨RX3, "made", "(II)I"⟩
abbrev cX3_areInputs : ByteArray := prog_5_method_11_code
def yX3_areInputs : MethodName := ⟨RX3, "areInputs", "(I)Z"⟩
abbrev cX3_settled : ByteArray := prog_5_method_12_code
def yX3_settled : MethodName := ⟨RX3, "settled", "(I)I"⟩
abbrev cX3_simulate : ByteArray := prog_5_method_13_code
def yX3_simulate : MethodName := ⟨RX3, "simulate", "(I)I"⟩
abbrev cX3_claimed : ByteArray := prog_5_method_14_code
def yX3_claimed : MethodName := ⟨RX3, "claimed", "(I)J"⟩
abbrev cX3_evaluate : ByteArray := prog_5_method_15_code
def yX3_evaluate : MethodName := ⟨RX3, "evaluate", "(I)J"⟩
abbrev cX3_add : ByteArray := prog_5_method_16_code
def yX3_add : MethodName := ⟨RX3, "add", "(II)I"⟩
abbrev cX3_coefficients : ByteArray := prog_5_method_17_code
def yX3_coefficients : MethodName := ⟨RX3, "coefficients", "()I"⟩
abbrev cX3_find : ByteArray := prog_5_method_18_code
def yX3_find : MethodName := ⟨RX3, "find", "(II)I"⟩
abbrev cX3_has : ByteArray := prog_5_method_19_code
def yX3_has : MethodName := ⟨RX3, "has", "(II)J"⟩
abbrev cX3_values : ByteArray := prog_5_method_20_code
def yX3_values : MethodName := ⟨RX3, "values", "(I)V"⟩
abbrev cX3_redirected : ByteArray := prog_5_method_21_code
def yX3_redirected : MethodName := ⟨RX3, "redirected", "(II)I"⟩
abbrev cX3_gateWire : ByteArray := prog_5_method_22_code
def yX3_gateWire : MethodName := ⟨RX3, "gateWire", "(I)I"⟩
abbrev cX3_gates : ByteArray := prog_5_method_23_code
def yX3_gates : MethodName := ⟨RX3, "gates", "()I"⟩
abbrev cX3_keep : ByteArray := prog_5_method_24_code
def yX3_keep : MethodName := ⟨RX3, "keep", "(I)V"⟩
abbrev cX3_eliminated : ByteArray := prog_5_method_25_code
def yX3_eliminated : MethodName := ⟨RX3, "eliminated", "(I)I"⟩
abbrev cX3_derived : ByteArray := prog_5_method_26_code
def yX3_derived : MethodName := ⟨RX3, "derived", "(Z)Z"⟩
abbrev cX3_prove : ByteArray := prog_5_method_27_code
def yX3_prove : MethodName := ⟨RX3, "prove", "()I"⟩
abbrev cX3_lines : ByteArray := prog_5_method_28_code
def yX3_lines : MethodName := ⟨RX3, "lines", "()I"⟩
abbrev cX3_lack : ByteArray := prog_5_method_29_code
def yX3_lack : MethodName := ⟨RX3, "lack", "(I)I"⟩
abbrev cX3_size : ByteArray := prog_5_method_30_code
def yX3_size : MethodName := ⟨RX3, "size", "(I)I"⟩
abbrev cX3_monomial : ByteArray := prog_5_method_31_code
def yX3_monomial : MethodName := ⟨RX3, "monomial", "(II)I"⟩
abbrev cX3_coefficient : ByteArray := prog_5_method_32_code
def yX3_coefficient : MethodName := ⟨RX3, "coefficient", "(II)J"⟩
abbrev cX3_spoil : ByteArray := prog_5_method_33_code
def yX3_spoil : MethodName := ⟨RX3, "spoil", "(III)J"⟩
abbrev cX3_right : ByteArray := prog_5_method_34_code
def yX3_right : MethodName := ⟨RX3, "right", "(I)Z"⟩
abbrev cX3_check : ByteArray := prog_5_method_35_code
def yX3_check : MethodName := ⟨RX3, "check", "()I"⟩
abbrev cX3_many : ByteArray := prog_5_method_36_code
def yX3_many : MethodName := ⟨RX3, "many", "(I)I"⟩
abbrev cX3_witness : ByteArray := prog_5_method_37_code
def yX3_witness : MethodName := ⟨RX3, "witness", "()I"⟩
abbrev cX3_clear : ByteArray := prog_5_method_38_code
def yX3_clear : MethodName := ⟨RX3, "clear", "()I"⟩
def RJx145de : String := "java/io/Serializable"
def TJx145de : u_T := fun k => match k with
  | _ => ("", "", "", false)
def tyJx145de : Nat → FieldType := fun k => match k with
  | _ => .int
abbrev wsJx145de0 : List Cond := u_ws RJx145de TJx145de 0
theorem nmJx145de : ∀ a, a < 0 → ∀ b, b < 0 → a ≠ b → (TJx145de a).2.1 ≠ (TJx145de b).2.1 := by decide +kernel
theorem tyJx145de_ok : ∀ k, k < 0 → parseFieldDescriptor (TJx145de k).2.2.1 = some (tyJx145de k) := by decide +kernel
def RJx00060 : String := "java/lang/ArrayIndexOutOfBoundsException"
def TJx00060 : u_T := fun k => match k with
  | 0 => ("java/lang/Throwable", "backtrace", "Ljava/lang/Object;", false)
  | 1 => ("java/lang/Throwable", "detailMessage", "Ljava/lang/String;", false)
  | 2 => ("java/lang/Throwable", "cause", "Ljava/lang/Throwable;", false)
  | 3 => ("java/lang/Throwable", "stackTrace", "[Ljava/lang/StackTraceElement;", false)
  | 4 => ("java/lang/Throwable", "depth", "I", false)
  | _ => ("java/lang/Throwable", "suppressedExceptions", "Ljava/util/List;", false)
def tyJx00060 : Nat → FieldType := fun k => match k with
  | 0 => .object "java/lang/Object"
  | 1 => .object "java/lang/String"
  | 2 => .object "java/lang/Throwable"
  | 3 => .array (.object "java/lang/StackTraceElement")
  | 4 => .int
  | _ => .object "java/util/List"
abbrev wsJx000600 : List Cond := u_ws RJx00060 TJx00060 6
theorem nmJx00060 : ∀ a, a < 6 → ∀ b, b < 6 → a ≠ b → (TJx00060 a).2.1 ≠ (TJx00060 b).2.1 := by decide +kernel
theorem tyJx00060_ok : ∀ k, k < 6 → parseFieldDescriptor (TJx00060 k).2.2.1 = some (tyJx00060 k) := by decide +kernel
abbrev cJx00060_init_a7421 : ByteArray := prog_8_method_2_code
def yJx00060_init_a7421 : MethodName := ⟨RJx00060, "<init>", "(Ljava/lang/String;)V"⟩
def RJ6 : String := "java/lang/Integer"
def TJ6 : u_T := fun k => match k with
  | _ => ("", "", "", false)
def tyJ6 : Nat → FieldType := fun k => match k with
  | _ => .int
abbrev wsJ60 : List Cond := u_ws RJ6 TJ6 0
theorem nmJ6 : ∀ a, a < 0 → ∀ b, b < 0 → a ≠ b → (TJ6 a).2.1 ≠ (TJ6 b).2.1 := by decide +kernel
theorem tyJ6_ok : ∀ k, k < 0 → parseFieldDescriptor (TJ6 k).2.2.1 = some (tyJ6 k) := by decide +kernel
abbrev cJ6_bitCount_0f7a4 : ByteArray := prog_13_method_49_code
def yJ6_bitCount_0f7a4 : MethodName := ⟨RJ6, "bitCount", "(I)I"⟩
def RJ0 : String := "java/lang/String"
def TJ0 : u_T := fun k => match k with
  | 0 => ("java/lang/String", "value", "[B", true)
  | _ => ("java/lang/String", "coder", "B", true)
def tyJ0 : Nat → FieldType := fun k => match k with
  | 0 => .array .byte
  | _ => .byte
abbrev wsJ00 : List Cond := u_ws RJ0 TJ0 2
theorem nmJ0 : ∀ a, a < 2 → ∀ b, b < 2 → a ≠ b → (TJ0 a).2.1 ≠ (TJ0 b).2.1 := by decide +kernel
theorem tyJ0_ok : ∀ k, k < 2 → parseFieldDescriptor (TJ0 k).2.2.1 = some (tyJ0 k) := by decide +kernel
def RJ10 : String := "java/lang/System"
def TJ10 : u_T := fun k => match k with
  | _ => ("", "", "", false)
def tyJ10 : Nat → FieldType := fun k => match k with
  | _ => .int
abbrev wsJ100 : List Cond := u_ws RJ10 TJ10 0
theorem nmJ10 : ∀ a, a < 0 → ∀ b, b < 0 → a ≠ b → (TJ10 a).2.1 ≠ (TJ10 b).2.1 := by decide +kernel
theorem tyJ10_ok : ∀ k, k < 0 → parseFieldDescriptor (TJ10 k).2.2.1 = some (tyJ10 k) := by decide +kernel
def RJ7 : String := "java/util/Arrays"
def TJ7 : u_T := fun k => match k with
  | _ => ("", "", "", false)
def tyJ7 : Nat → FieldType := fun k => match k with
  | _ => .int
abbrev wsJ70 : List Cond := u_ws RJ7 TJ7 0
theorem nmJ7 : ∀ a, a < 0 → ∀ b, b < 0 → a ≠ b → (TJ7 a).2.1 ≠ (TJ7 b).2.1 := by decide +kernel
theorem tyJ7_ok : ∀ k, k < 0 → parseFieldDescriptor (TJ7 k).2.2.1 = some (tyJ7 k) := by decide +kernel
abbrev cJ7_fill_d0a16 : ByteArray := prog_18_method_101_code
def yJ7_fill_d0a16 : MethodName := ⟨RJ7, "fill", "([JJ)V"⟩
def RL : String := "GatePolynomialsLaw"
abbrev cL_input : ByteArray := method_3_code
def yL_input : MethodName := ⟨RL, "input", "(LGatePolynomials;[J)I"⟩
abbrev cL_gate : ByteArray := method_4_code
def yL_gate : MethodName := ⟨RL, "gate", "(LGatePolynomials;IIII[J)I"⟩
abbrev cL_add : ByteArray := method_5_code
def yL_add : MethodName := ⟨RL, "add", "(LGatePolynomials;II[J)I"⟩
abbrev cL_simulate : ByteArray := method_6_code
def yL_simulate : MethodName := ⟨RL, "simulate", "(LGatePolynomials;I[J)I"⟩
abbrev cL_evaluate : ByteArray := method_7_code
def yL_evaluate : MethodName := ⟨RL, "evaluate", "(LGatePolynomials;I[J)I"⟩
abbrev cL_prove : ByteArray := method_8_code
def yL_prove : MethodName := ⟨RL, "prove", "(LGatePolynomials;[J)I"⟩
abbrev cL_size : ByteArray := method_9_code
def yL_size : MethodName := ⟨RL, "size", "(LGatePolynomials;I[J)I"⟩
abbrev cL_monomial : ByteArray := method_10_code
def yL_monomial : MethodName := ⟨RL, "monomial", "(LGatePolynomials;II[J)I"⟩
abbrev cL_coefficient : ByteArray := method_11_code
def yL_coefficient : MethodName := ⟨RL, "coefficient", "(LGatePolynomials;II[J)I"⟩
abbrev cL_spoil : ByteArray := method_12_code
def yL_spoil : MethodName := ⟨RL, "spoil", "(LGatePolynomials;III[J)I"⟩
abbrev cL_check : ByteArray := method_13_code
def yL_check : MethodName := ⟨RL, "check", "(LGatePolynomials;[J)I"⟩
abbrev cL_witness : ByteArray := method_14_code
def yL_witness : MethodName := ⟨RL, "witness", "(LGatePolynomials;[J)I"⟩
abbrev cL_law : ByteArray := code
def yL_law : MethodName := ⟨RL, "law", "([I)Z"⟩

abbrev kcl : List vw_C := [(RX0, TX0, 6), (RX1, TX1, 2), (RX2, TX2, 8), (RX3, TX3, 14)]
def WW : List Cond := lw_tbl.filter goodWord
theorem WW_of {w : Cond} (h : w ∈ lw_tbl) (g : goodWord w = true) : w ∈ WW := List.mem_filter.mpr ⟨h, g⟩
theorem WW_good {w : Cond} (h : w ∈ WW) : goodWord w = true := (List.mem_filter.mp h).2
theorem WW_tbl {w : Cond} (h : w ∈ WW) : w ∈ lw_tbl := (List.mem_filter.mp h).1
theorem iN_L : Cond.initialized RL ∈ WW := WW_of (List.mem_of_getElem? (i := 33) (by decide +kernel)) rfl
theorem iN_X2 : Cond.initialized RX2 ∈ WW := WW_of (List.mem_of_getElem? (i := 34) (by decide +kernel)) rfl
theorem iN_X1 : Cond.initialized RX1 ∈ WW := WW_of (List.mem_of_getElem? (i := 35) (by decide +kernel)) rfl
theorem iN_X0 : Cond.initialized RX0 ∈ WW := WW_of (List.mem_of_getElem? (i := 36) (by decide +kernel)) rfl
theorem iN_X3 : Cond.initialized RX3 ∈ WW := WW_of (List.mem_of_getElem? (i := 37) (by decide +kernel)) rfl
theorem iN__java_lang_Throwable : Cond.initialized "java/lang/Throwable" ∈ WW := WW_of (List.mem_of_getElem? (i := 38) (by decide +kernel)) rfl
theorem iN__java_lang_Exception : Cond.initialized "java/lang/Exception" ∈ WW := WW_of (List.mem_of_getElem? (i := 39) (by decide +kernel)) rfl
theorem iN__java_lang_RuntimeException : Cond.initialized "java/lang/RuntimeException" ∈ WW := WW_of (List.mem_of_getElem? (i := 40) (by decide +kernel)) rfl
theorem iN__java_lang_IllegalStateException : Cond.initialized "java/lang/IllegalStateException" ∈ WW := WW_of (List.mem_of_getElem? (i := 41) (by decide +kernel)) rfl
theorem iN__java_lang_IllegalArgumentException : Cond.initialized "java/lang/IllegalArgumentException" ∈ WW := WW_of (List.mem_of_getElem? (i := 42) (by decide +kernel)) rfl
theorem iN__java_lang_ArithmeticException : Cond.initialized "java/lang/ArithmeticException" ∈ WW := WW_of (List.mem_of_getElem? (i := 43) (by decide +kernel)) rfl
theorem iN_J0 : Cond.initialized RJ0 ∈ WW := WW_of (List.mem_of_getElem? (i := 44) (by decide +kernel)) rfl
theorem iN_J10 : Cond.initialized RJ10 ∈ WW := WW_of (List.mem_of_getElem? (i := 45) (by decide +kernel)) rfl
theorem iN_J7 : Cond.initialized RJ7 ∈ WW := WW_of (List.mem_of_getElem? (i := 46) (by decide +kernel)) rfl
theorem iN__java_lang_IndexOutOfBoundsException : Cond.initialized "java/lang/IndexOutOfBoundsException" ∈ WW := WW_of (List.mem_of_getElem? (i := 47) (by decide +kernel)) rfl
theorem iN_Jx00060 : Cond.initialized RJx00060 ∈ WW := WW_of (List.mem_of_getElem? (i := 48) (by decide +kernel)) rfl
theorem iN__java_util_NoSuchElementException : Cond.initialized "java/util/NoSuchElementException" ∈ WW := WW_of (List.mem_of_getElem? (i := 49) (by decide +kernel)) rfl
theorem iN_J6 : Cond.initialized RJ6 ∈ WW := WW_of (List.mem_of_getElem? (i := 50) (by decide +kernel)) rfl
theorem kL_L_8 : Cond.classLink RL 8 "GatePolynomials" ∈ WW := WW_of (List.mem_of_getElem? (i := 51) (by decide +kernel)) rfl
theorem iT_X2 : Cond.instantiable RX2 8 ∈ WW := WW_of (List.mem_of_getElem? (i := 52) (by decide +kernel)) rfl
theorem mL_L_62 : Cond.methodLink RL 62 yX2_init ∈ WW := WW_of (List.mem_of_getElem? (i := 53) (by decide +kernel)) rfl
theorem yI_X2_init : Cond.instanceMethod yX2_init ∈ WW := WW_of (List.mem_of_getElem? (i := 54) (by decide +kernel)) rfl
theorem cd_X2_init : Cond.code yX2_init prog_1_method_1_code 2 none ∈ WW := WW_of (List.mem_of_getElem? (i := 55) (by decide +kernel)) rfl
theorem mL_X2_1 : Cond.methodLink RX2 1 (⟨"java/lang/Object", "<init>", "()V"⟩ : MethodName) ∈ WW := WW_of (List.mem_of_getElem? (i := 56) (by decide +kernel)) rfl
theorem yI_objinit : Cond.instanceMethod (⟨"java/lang/Object", "<init>", "()V"⟩ : MethodName) ∈ WW := WW_of (List.mem_of_getElem? (i := 57) (by decide +kernel)) rfl
theorem cd_objinit : Cond.code (⟨"java/lang/Object", "<init>", "()V"⟩ : MethodName) object_method_1_code 1 none ∈ WW := WW_of (List.mem_of_getElem? (i := 58) (by decide +kernel)) rfl
theorem kL_X2_9 : Cond.classLink RX2 9 "GatePolynomials$Gate" ∈ WW := WW_of (List.mem_of_getElem? (i := 59) (by decide +kernel)) rfl
theorem kL_X2_15 : Cond.classLink RX2 15 "GatePolynomials$Polynomial" ∈ WW := WW_of (List.mem_of_getElem? (i := 61) (by decide +kernel)) rfl
theorem iT_X1 : Cond.instantiable RX1 2 ∈ WW := WW_of (List.mem_of_getElem? (i := 62) (by decide +kernel)) rfl
theorem yI_X1_init : Cond.instanceMethod yX1_init ∈ WW := WW_of (List.mem_of_getElem? (i := 64) (by decide +kernel)) rfl
theorem cd_X1_init : Cond.code yX1_init prog_3_method_1_code 1 none ∈ WW := WW_of (List.mem_of_getElem? (i := 65) (by decide +kernel)) rfl
theorem mL_X1_3 : Cond.methodLink RX1 3 (⟨"java/lang/Object", "<init>", "()V"⟩ : MethodName) ∈ WW := WW_of (List.mem_of_getElem? (i := 66) (by decide +kernel)) rfl
theorem fL_X1_9 : Cond.fieldLink RX1 9 "GatePolynomials$Polynomial" "numbers" "[J" ∈ WW := WW_of (List.mem_of_getElem? (i := 67) (by decide +kernel)) rfl
theorem fL_X1_21 : Cond.fieldLink RX1 21 "GatePolynomials$Polynomial" "monomials" "I" ∈ WW := WW_of (List.mem_of_getElem? (i := 68) (by decide +kernel)) rfl
theorem aC_long : Cond.arrayClass .long ∈ WW := WW_of (List.mem_of_getElem? (i := 74) (by decide +kernel)) rfl
theorem iT_X0 : Cond.instantiable RX0 6 ∈ WW := WW_of (List.mem_of_getElem? (i := 76) (by decide +kernel)) rfl
theorem yI_X0_init : Cond.instanceMethod yX0_init ∈ WW := WW_of (List.mem_of_getElem? (i := 78) (by decide +kernel)) rfl
theorem cd_X0_init : Cond.code yX0_init prog_2_method_1_code 1 none ∈ WW := WW_of (List.mem_of_getElem? (i := 79) (by decide +kernel)) rfl
theorem mL_X0_3 : Cond.methodLink RX0 3 (⟨"java/lang/Object", "<init>", "()V"⟩ : MethodName) ∈ WW := WW_of (List.mem_of_getElem? (i := 80) (by decide +kernel)) rfl
theorem fL_X0_19 : Cond.fieldLink RX0 19 "GatePolynomials$Gate" "kind" "I" ∈ WW := WW_of (List.mem_of_getElem? (i := 81) (by decide +kernel)) rfl
theorem fL_X0_23 : Cond.fieldLink RX0 23 "GatePolynomials$Gate" "a" "I" ∈ WW := WW_of (List.mem_of_getElem? (i := 82) (by decide +kernel)) rfl
theorem fL_X0_26 : Cond.fieldLink RX0 26 "GatePolynomials$Gate" "b" "I" ∈ WW := WW_of (List.mem_of_getElem? (i := 83) (by decide +kernel)) rfl
theorem fL_X0_29 : Cond.fieldLink RX0 29 "GatePolynomials$Gate" "c" "I" ∈ WW := WW_of (List.mem_of_getElem? (i := 84) (by decide +kernel)) rfl
theorem fL_X0_11 : Cond.fieldLink RX0 11 "GatePolynomials$Gate" "termSets" "[I" ∈ WW := WW_of (List.mem_of_getElem? (i := 85) (by decide +kernel)) rfl
theorem fL_X0_15 : Cond.fieldLink RX0 15 "GatePolynomials$Gate" "termNumbers" "[J" ∈ WW := WW_of (List.mem_of_getElem? (i := 86) (by decide +kernel)) rfl
theorem aC_int : Cond.arrayClass .int ∈ WW := WW_of (List.mem_of_getElem? (i := 100) (by decide +kernel)) rfl
theorem fL_X2_11 : Cond.fieldLink RX2 11 "GatePolynomials" "gates" "[LGatePolynomials$Gate;" ∈ WW := WW_of (List.mem_of_getElem? (i := 101) (by decide +kernel)) rfl
theorem fL_X2_37 : Cond.fieldLink RX2 37 "GatePolynomials" "wireCount" "I" ∈ WW := WW_of (List.mem_of_getElem? (i := 102) (by decide +kernel)) rfl
theorem fL_X2_33 : Cond.fieldLink RX2 33 "GatePolynomials" "inputWires" "I" ∈ WW := WW_of (List.mem_of_getElem? (i := 103) (by decide +kernel)) rfl
theorem fL_X2_18 : Cond.fieldLink RX2 18 "GatePolynomials" "claim" "LGatePolynomials$Polynomial;" ∈ WW := WW_of (List.mem_of_getElem? (i := 104) (by decide +kernel)) rfl
theorem fL_X2_68 : Cond.fieldLink RX2 68 "GatePolynomials" "additions" "I" ∈ WW := WW_of (List.mem_of_getElem? (i := 105) (by decide +kernel)) rfl
theorem fL_X2_22 : Cond.fieldLink RX2 22 "GatePolynomials" "proof" "[LGatePolynomials$Polynomial;" ∈ WW := WW_of (List.mem_of_getElem? (i := 106) (by decide +kernel)) rfl
theorem fL_X2_113 : Cond.fieldLink RX2 113 "GatePolynomials" "lineCount" "I" ∈ WW := WW_of (List.mem_of_getElem? (i := 107) (by decide +kernel)) rfl
theorem fL_X2_26 : Cond.fieldLink RX2 26 "GatePolynomials" "expected" "LGatePolynomials$Polynomial;" ∈ WW := WW_of (List.mem_of_getElem? (i := 108) (by decide +kernel)) rfl
theorem mL_L_79 : Cond.methodLink RL 79 yX2_wires ∈ WW := WW_of (List.mem_of_getElem? (i := 126) (by decide +kernel)) rfl
theorem yI_X2_wires : Cond.instanceMethod yX2_wires ∈ WW := WW_of (List.mem_of_getElem? (i := 127) (by decide +kernel)) rfl
theorem sl_X2_wires : Cond.selects RX2 yX2_wires yX2_wires ∈ WW := WW_of (List.mem_of_getElem? (i := 128) (by decide +kernel)) rfl
theorem cd_X2_wires : Cond.code yX2_wires prog_1_method_4_code 1 (some .int) ∈ WW := WW_of (List.mem_of_getElem? (i := 129) (by decide +kernel)) rfl
theorem mL_L_97 : Cond.methodLink RL 97 yX2_lines ∈ WW := WW_of (List.mem_of_getElem? (i := 130) (by decide +kernel)) rfl
theorem yI_X2_lines : Cond.instanceMethod yX2_lines ∈ WW := WW_of (List.mem_of_getElem? (i := 131) (by decide +kernel)) rfl
theorem sl_X2_lines : Cond.selects RX2 yX2_lines yX2_lines ∈ WW := WW_of (List.mem_of_getElem? (i := 132) (by decide +kernel)) rfl
theorem cd_X2_lines : Cond.code yX2_lines prog_1_method_9_code 1 (some .int) ∈ WW := WW_of (List.mem_of_getElem? (i := 133) (by decide +kernel)) rfl
theorem mL_L_120 : Cond.methodLink RL 120 yX2_clear ∈ WW := WW_of (List.mem_of_getElem? (i := 134) (by decide +kernel)) rfl
theorem yI_X2_clear : Cond.instanceMethod yX2_clear ∈ WW := WW_of (List.mem_of_getElem? (i := 135) (by decide +kernel)) rfl
theorem sl_X2_clear : Cond.selects RX2 yX2_clear yX2_clear ∈ WW := WW_of (List.mem_of_getElem? (i := 136) (by decide +kernel)) rfl
theorem cd_X2_clear : Cond.code yX2_clear prog_1_method_16_code 2 (some .int) ∈ WW := WW_of (List.mem_of_getElem? (i := 137) (by decide +kernel)) rfl
theorem mL_X2_151 : Cond.methodLink RX2 151 yX1_erase ∈ WW := WW_of (List.mem_of_getElem? (i := 138) (by decide +kernel)) rfl
theorem yI_X1_erase : Cond.instanceMethod yX1_erase ∈ WW := WW_of (List.mem_of_getElem? (i := 139) (by decide +kernel)) rfl
theorem sl_X1_erase : Cond.selects RX1 yX1_erase yX1_erase ∈ WW := WW_of (List.mem_of_getElem? (i := 140) (by decide +kernel)) rfl
theorem cd_X1_erase : Cond.code yX1_erase prog_3_method_2_code 1 none ∈ WW := WW_of (List.mem_of_getElem? (i := 141) (by decide +kernel)) rfl
theorem mL_X1_15 : Cond.methodLink RX1 15 yJ7_fill_d0a16 ∈ WW := WW_of (List.mem_of_getElem? (i := 142) (by decide +kernel)) rfl
theorem yS_J7_fill_d0a16 : Cond.static yJ7_fill_d0a16 ∈ WW := WW_of (List.mem_of_getElem? (i := 143) (by decide +kernel)) rfl
theorem cd_J7_fill_d0a16 : Cond.code yJ7_fill_d0a16 prog_18_method_101_code 5 none ∈ WW := WW_of (List.mem_of_getElem? (i := 144) (by decide +kernel)) rfl
theorem mL_X2_80 : Cond.methodLink RX2 80 yX2_dropProof ∈ WW := WW_of (List.mem_of_getElem? (i := 145) (by decide +kernel)) rfl
theorem yI_X2_dropProof : Cond.instanceMethod yX2_dropProof ∈ WW := WW_of (List.mem_of_getElem? (i := 147) (by decide +kernel)) rfl
theorem cd_X2_dropProof : Cond.code yX2_dropProof prog_1_method_18_code 1 none ∈ WW := WW_of (List.mem_of_getElem? (i := 148) (by decide +kernel)) rfl
theorem mL_L_66 : Cond.methodLink RL 66 yL_input ∈ WW := WW_of (List.mem_of_getElem? (i := 149) (by decide +kernel)) rfl
theorem yS_L_input : Cond.static yL_input ∈ WW := WW_of (List.mem_of_getElem? (i := 150) (by decide +kernel)) rfl
theorem cd_L_input : Cond.codeWith yL_input method_3_code 3 (some .int) [(0, 8, 11, 13)] ∈ WW := WW_of (List.mem_of_getElem? (i := 151) (by decide +kernel)) rfl
theorem kL_L_13 : Cond.classLink RL 13 "java/lang/IllegalStateException" ∈ WW := WW_of (List.mem_of_getElem? (i := 152) (by decide +kernel)) rfl
theorem mL_L_7 : Cond.methodLink RL 7 yX2_input ∈ WW := WW_of (List.mem_of_getElem? (i := 153) (by decide +kernel)) rfl
theorem yI_X2_input : Cond.instanceMethod yX2_input ∈ WW := WW_of (List.mem_of_getElem? (i := 154) (by decide +kernel)) rfl
theorem sl_X2_input : Cond.selects RX2 yX2_input yX2_input ∈ WW := WW_of (List.mem_of_getElem? (i := 155) (by decide +kernel)) rfl
theorem cd_X2_input : Cond.code yX2_input prog_1_method_2_code 1 (some .int) ∈ WW := WW_of (List.mem_of_getElem? (i := 156) (by decide +kernel)) rfl
theorem mL_X2_30 : Cond.methodLink RX2 30 yX2_refuseTenthWire ∈ WW := WW_of (List.mem_of_getElem? (i := 157) (by decide +kernel)) rfl
theorem yI_X2_refuseTenthWire : Cond.instanceMethod yX2_refuseTenthWire ∈ WW := WW_of (List.mem_of_getElem? (i := 159) (by decide +kernel)) rfl
theorem cd_X2_refuseTenthWire : Cond.code yX2_refuseTenthWire prog_1_method_19_code 1 none ∈ WW := WW_of (List.mem_of_getElem? (i := 160) (by decide +kernel)) rfl
theorem kL_X2_71 : Cond.classLink RX2 71 "java/lang/IllegalStateException" ∈ WW := WW_of (List.mem_of_getElem? (i := 161) (by decide +kernel)) rfl
theorem iT__java_lang_IllegalStateException : Cond.instantiable "java/lang/IllegalStateException" 6 ∈ WW := WW_of (List.mem_of_getElem? (i := 162) (by decide +kernel)) rfl
theorem iT__java_lang_Throwable : Cond.instantiable "java/lang/Throwable" 6 ∈ WW := WW_of (List.mem_of_getElem? (i := 203) (by decide +kernel)) rfl
theorem mL_X2_75 : Cond.methodLink RX2 75 (⟨"java/lang/IllegalStateException", "<init>", "(Ljava/lang/String;)V"⟩ : MethodName) ∈ WW := WW_of (List.mem_of_getElem? (i := 206) (by decide +kernel)) rfl
theorem aC_byte : Cond.arrayClass .byte ∈ WW := WW_of (List.mem_of_getElem? (i := 231) (by decide +kernel)) rfl
theorem mL_X2_40 : Cond.methodLink RX2 40 yX2_bitOf ∈ WW := WW_of (List.mem_of_getElem? (i := 232) (by decide +kernel)) rfl
theorem yS_X2_bitOf : Cond.static yX2_bitOf ∈ WW := WW_of (List.mem_of_getElem? (i := 233) (by decide +kernel)) rfl
theorem cd_X2_bitOf : Cond.code yX2_bitOf prog_1_method_28_code 1 (some .int) ∈ WW := WW_of (List.mem_of_getElem? (i := 234) (by decide +kernel)) rfl
theorem mL_X2_44 : Cond.methodLink RX2 44 yX2_countNewWire ∈ WW := WW_of (List.mem_of_getElem? (i := 235) (by decide +kernel)) rfl
theorem yI_X2_countNewWire : Cond.instanceMethod yX2_countNewWire ∈ WW := WW_of (List.mem_of_getElem? (i := 237) (by decide +kernel)) rfl
theorem cd_X2_countNewWire : Cond.code yX2_countNewWire prog_1_method_17_code 1 (some .int) ∈ WW := WW_of (List.mem_of_getElem? (i := 238) (by decide +kernel)) rfl
theorem mL_L_75 : Cond.methodLink RL 75 yL_gate ∈ WW := WW_of (List.mem_of_getElem? (i := 239) (by decide +kernel)) rfl
theorem yS_L_gate : Cond.static yL_gate ∈ WW := WW_of (List.mem_of_getElem? (i := 240) (by decide +kernel)) rfl
theorem cd_L_gate : Cond.codeWith yL_gate method_4_code 7 (some .int) [(0, 14, 17, 19), (0, 14, 21, 13)] ∈ WW := WW_of (List.mem_of_getElem? (i := 241) (by decide +kernel)) rfl
theorem kL_L_19 : Cond.classLink RL 19 "java/lang/IllegalArgumentException" ∈ WW := WW_of (List.mem_of_getElem? (i := 242) (by decide +kernel)) rfl
theorem mL_L_15 : Cond.methodLink RL 15 yX2_gate ∈ WW := WW_of (List.mem_of_getElem? (i := 243) (by decide +kernel)) rfl
theorem yI_X2_gate : Cond.instanceMethod yX2_gate ∈ WW := WW_of (List.mem_of_getElem? (i := 244) (by decide +kernel)) rfl
theorem sl_X2_gate : Cond.selects RX2 yX2_gate yX2_gate ∈ WW := WW_of (List.mem_of_getElem? (i := 245) (by decide +kernel)) rfl
theorem cd_X2_gate : Cond.code yX2_gate prog_1_method_3_code 7 (some .int) ∈ WW := WW_of (List.mem_of_getElem? (i := 246) (by decide +kernel)) rfl
theorem mL_X2_48 : Cond.methodLink RX2 48 yX2_isLiteral ∈ WW := WW_of (List.mem_of_getElem? (i := 247) (by decide +kernel)) rfl
theorem yI_X2_isLiteral : Cond.instanceMethod yX2_isLiteral ∈ WW := WW_of (List.mem_of_getElem? (i := 249) (by decide +kernel)) rfl
theorem cd_X2_isLiteral : Cond.code yX2_isLiteral prog_1_method_25_code 2 (some .boolean) ∈ WW := WW_of (List.mem_of_getElem? (i := 250) (by decide +kernel)) rfl
theorem kL_X2_52 : Cond.classLink RX2 52 "java/lang/IllegalArgumentException" ∈ WW := WW_of (List.mem_of_getElem? (i := 251) (by decide +kernel)) rfl
theorem iT__java_lang_IllegalArgumentException : Cond.instantiable "java/lang/IllegalArgumentException" 6 ∈ WW := WW_of (List.mem_of_getElem? (i := 252) (by decide +kernel)) rfl
theorem mL_X2_56 : Cond.methodLink RX2 56 (⟨"java/lang/IllegalArgumentException", "<init>", "(Ljava/lang/String;)V"⟩ : MethodName) ∈ WW := WW_of (List.mem_of_getElem? (i := 261) (by decide +kernel)) rfl
theorem mL_X2_59 : Cond.methodLink RX2 59 yX0_become ∈ WW := WW_of (List.mem_of_getElem? (i := 267) (by decide +kernel)) rfl
theorem yI_X0_become : Cond.instanceMethod yX0_become ∈ WW := WW_of (List.mem_of_getElem? (i := 268) (by decide +kernel)) rfl
theorem sl_X0_become : Cond.selects RX0 yX0_become yX0_become ∈ WW := WW_of (List.mem_of_getElem? (i := 269) (by decide +kernel)) rfl
theorem cd_X0_become : Cond.code yX0_become prog_2_method_2_code 6 none ∈ WW := WW_of (List.mem_of_getElem? (i := 270) (by decide +kernel)) rfl
theorem mL_X0_32 : Cond.methodLink RX0 32 yX0_setTermToValue ∈ WW := WW_of (List.mem_of_getElem? (i := 271) (by decide +kernel)) rfl
theorem yI_X0_setTermToValue : Cond.instanceMethod yX0_setTermToValue ∈ WW := WW_of (List.mem_of_getElem? (i := 273) (by decide +kernel)) rfl
theorem cd_X0_setTermToValue : Cond.code yX0_setTermToValue prog_2_method_5_code 5 none ∈ WW := WW_of (List.mem_of_getElem? (i := 274) (by decide +kernel)) rfl
theorem mL_X0_54 : Cond.methodLink RX0 54 yX0_wireBit ∈ WW := WW_of (List.mem_of_getElem? (i := 275) (by decide +kernel)) rfl
theorem yS_X0_wireBit : Cond.static yX0_wireBit ∈ WW := WW_of (List.mem_of_getElem? (i := 276) (by decide +kernel)) rfl
theorem cd_X0_wireBit : Cond.code yX0_wireBit prog_2_method_10_code 1 (some .int) ∈ WW := WW_of (List.mem_of_getElem? (i := 277) (by decide +kernel)) rfl
theorem mL_X0_58 : Cond.methodLink RX0 58 yX0_literalFor ∈ WW := WW_of (List.mem_of_getElem? (i := 279) (by decide +kernel)) rfl
theorem yS_X0_literalFor : Cond.static yX0_literalFor ∈ WW := WW_of (List.mem_of_getElem? (i := 280) (by decide +kernel)) rfl
theorem cd_X0_literalFor : Cond.code yX0_literalFor prog_2_method_9_code 2 (some .int) ∈ WW := WW_of (List.mem_of_getElem? (i := 281) (by decide +kernel)) rfl
theorem mL_X0_44 : Cond.methodLink RX0 44 yX0_outcome ∈ WW := WW_of (List.mem_of_getElem? (i := 282) (by decide +kernel)) rfl
theorem yI_X0_outcome : Cond.instanceMethod yX0_outcome ∈ WW := WW_of (List.mem_of_getElem? (i := 284) (by decide +kernel)) rfl
theorem cd_X0_outcome : Cond.code yX0_outcome prog_2_method_7_code 4 (some .int) ∈ WW := WW_of (List.mem_of_getElem? (i := 285) (by decide +kernel)) rfl
theorem mL_X0_36 : Cond.methodLink RX0 36 yX0_turnValuesToNumbers ∈ WW := WW_of (List.mem_of_getElem? (i := 286) (by decide +kernel)) rfl
theorem yI_X0_turnValuesToNumbers : Cond.instanceMethod yX0_turnValuesToNumbers ∈ WW := WW_of (List.mem_of_getElem? (i := 288) (by decide +kernel)) rfl
theorem cd_X0_turnValuesToNumbers : Cond.code yX0_turnValuesToNumbers prog_2_method_6_code 3 none ∈ WW := WW_of (List.mem_of_getElem? (i := 289) (by decide +kernel)) rfl
theorem mL_L_83 : Cond.methodLink RL 83 yL_add ∈ WW := WW_of (List.mem_of_getElem? (i := 290) (by decide +kernel)) rfl
theorem yS_L_add : Cond.static yL_add ∈ WW := WW_of (List.mem_of_getElem? (i := 291) (by decide +kernel)) rfl
theorem cd_L_add : Cond.codeWith yL_add method_5_code 5 (some .int) [(0, 10, 13, 19), (0, 10, 17, 13)] ∈ WW := WW_of (List.mem_of_getElem? (i := 292) (by decide +kernel)) rfl
theorem mL_L_21 : Cond.methodLink RL 21 yX2_add ∈ WW := WW_of (List.mem_of_getElem? (i := 293) (by decide +kernel)) rfl
theorem yI_X2_add : Cond.instanceMethod yX2_add ∈ WW := WW_of (List.mem_of_getElem? (i := 294) (by decide +kernel)) rfl
theorem sl_X2_add : Cond.selects RX2 yX2_add yX2_add ∈ WW := WW_of (List.mem_of_getElem? (i := 295) (by decide +kernel)) rfl
theorem cd_X2_add : Cond.code yX2_add prog_1_method_5_code 3 (some .int) ∈ WW := WW_of (List.mem_of_getElem? (i := 296) (by decide +kernel)) rfl
theorem mL_X2_63 : Cond.methodLink RX2 63 yX2_isSet ∈ WW := WW_of (List.mem_of_getElem? (i := 297) (by decide +kernel)) rfl
theorem yI_X2_isSet : Cond.instanceMethod yX2_isSet ∈ WW := WW_of (List.mem_of_getElem? (i := 299) (by decide +kernel)) rfl
theorem cd_X2_isSet : Cond.code yX2_isSet prog_1_method_24_code 2 (some .boolean) ∈ WW := WW_of (List.mem_of_getElem? (i := 300) (by decide +kernel)) rfl
theorem mL_X2_76 : Cond.methodLink RX2 76 yX1_increase ∈ WW := WW_of (List.mem_of_getElem? (i := 303) (by decide +kernel)) rfl
theorem yI_X1_increase : Cond.instanceMethod yX1_increase ∈ WW := WW_of (List.mem_of_getElem? (i := 304) (by decide +kernel)) rfl
theorem sl_X1_increase : Cond.selects RX1 yX1_increase yX1_increase ∈ WW := WW_of (List.mem_of_getElem? (i := 305) (by decide +kernel)) rfl
theorem cd_X1_increase : Cond.code yX1_increase prog_3_method_5_code 8 (some .long) ∈ WW := WW_of (List.mem_of_getElem? (i := 306) (by decide +kernel)) rfl
theorem mL_L_87 : Cond.methodLink RL 87 yL_simulate ∈ WW := WW_of (List.mem_of_getElem? (i := 307) (by decide +kernel)) rfl
theorem yS_L_simulate : Cond.static yL_simulate ∈ WW := WW_of (List.mem_of_getElem? (i := 308) (by decide +kernel)) rfl
theorem cd_L_simulate : Cond.codeWith yL_simulate method_6_code 4 (some .int) [(0, 9, 12, 19)] ∈ WW := WW_of (List.mem_of_getElem? (i := 309) (by decide +kernel)) rfl
theorem mL_L_25 : Cond.methodLink RL 25 yX2_simulate ∈ WW := WW_of (List.mem_of_getElem? (i := 310) (by decide +kernel)) rfl
theorem yI_X2_simulate : Cond.instanceMethod yX2_simulate ∈ WW := WW_of (List.mem_of_getElem? (i := 311) (by decide +kernel)) rfl
theorem sl_X2_simulate : Cond.selects RX2 yX2_simulate yX2_simulate ∈ WW := WW_of (List.mem_of_getElem? (i := 312) (by decide +kernel)) rfl
theorem cd_X2_simulate : Cond.code yX2_simulate prog_1_method_6_code 2 (some .int) ∈ WW := WW_of (List.mem_of_getElem? (i := 313) (by decide +kernel)) rfl
theorem mL_X2_83 : Cond.methodLink RX2 83 yX2_refuseOtherThanInputs ∈ WW := WW_of (List.mem_of_getElem? (i := 314) (by decide +kernel)) rfl
theorem yI_X2_refuseOtherThanInputs : Cond.instanceMethod yX2_refuseOtherThanInputs ∈ WW := WW_of (List.mem_of_getElem? (i := 316) (by decide +kernel)) rfl
theorem cd_X2_refuseOtherThanInputs : Cond.code yX2_refuseOtherThanInputs prog_1_method_20_code 2 none ∈ WW := WW_of (List.mem_of_getElem? (i := 317) (by decide +kernel)) rfl
theorem mL_X2_87 : Cond.methodLink RX2 87 yX2_wiresThatAreOne ∈ WW := WW_of (List.mem_of_getElem? (i := 319) (by decide +kernel)) rfl
theorem yI_X2_wiresThatAreOne : Cond.instanceMethod yX2_wiresThatAreOne ∈ WW := WW_of (List.mem_of_getElem? (i := 321) (by decide +kernel)) rfl
theorem cd_X2_wiresThatAreOne : Cond.code yX2_wiresThatAreOne prog_1_method_27_code 4 (some .int) ∈ WW := WW_of (List.mem_of_getElem? (i := 322) (by decide +kernel)) rfl
theorem mL_X2_98 : Cond.methodLink RX2 98 yX2_isGate ∈ WW := WW_of (List.mem_of_getElem? (i := 323) (by decide +kernel)) rfl
theorem yI_X2_isGate : Cond.instanceMethod yX2_isGate ∈ WW := WW_of (List.mem_of_getElem? (i := 325) (by decide +kernel)) rfl
theorem cd_X2_isGate : Cond.code yX2_isGate prog_1_method_26_code 2 (some .boolean) ∈ WW := WW_of (List.mem_of_getElem? (i := 326) (by decide +kernel)) rfl
theorem mL_X2_162 : Cond.methodLink RX2 162 yX0_valueWhere ∈ WW := WW_of (List.mem_of_getElem? (i := 327) (by decide +kernel)) rfl
theorem yI_X0_valueWhere : Cond.instanceMethod yX0_valueWhere ∈ WW := WW_of (List.mem_of_getElem? (i := 328) (by decide +kernel)) rfl
theorem sl_X0_valueWhere : Cond.selects RX0 yX0_valueWhere yX0_valueWhere ∈ WW := WW_of (List.mem_of_getElem? (i := 329) (by decide +kernel)) rfl
theorem cd_X0_valueWhere : Cond.code yX0_valueWhere prog_2_method_3_code 2 (some .int) ∈ WW := WW_of (List.mem_of_getElem? (i := 330) (by decide +kernel)) rfl
theorem mL_X0_40 : Cond.methodLink RX0 40 yX0_literalWhere ∈ WW := WW_of (List.mem_of_getElem? (i := 331) (by decide +kernel)) rfl
theorem yS_X0_literalWhere : Cond.static yX0_literalWhere ∈ WW := WW_of (List.mem_of_getElem? (i := 332) (by decide +kernel)) rfl
theorem cd_X0_literalWhere : Cond.code yX0_literalWhere prog_2_method_8_code 2 (some .int) ∈ WW := WW_of (List.mem_of_getElem? (i := 333) (by decide +kernel)) rfl
theorem mL_L_91 : Cond.methodLink RL 91 yL_evaluate ∈ WW := WW_of (List.mem_of_getElem? (i := 334) (by decide +kernel)) rfl
theorem yS_L_evaluate : Cond.static yL_evaluate ∈ WW := WW_of (List.mem_of_getElem? (i := 335) (by decide +kernel)) rfl
theorem cd_L_evaluate : Cond.codeWith yL_evaluate method_7_code 4 (some .int) [(0, 8, 11, 19)] ∈ WW := WW_of (List.mem_of_getElem? (i := 336) (by decide +kernel)) rfl
theorem mL_L_29 : Cond.methodLink RL 29 yX2_evaluate ∈ WW := WW_of (List.mem_of_getElem? (i := 337) (by decide +kernel)) rfl
theorem yI_X2_evaluate : Cond.instanceMethod yX2_evaluate ∈ WW := WW_of (List.mem_of_getElem? (i := 338) (by decide +kernel)) rfl
theorem sl_X2_evaluate : Cond.selects RX2 yX2_evaluate yX2_evaluate ∈ WW := WW_of (List.mem_of_getElem? (i := 339) (by decide +kernel)) rfl
theorem cd_X2_evaluate : Cond.code yX2_evaluate prog_1_method_7_code 2 (some .long) ∈ WW := WW_of (List.mem_of_getElem? (i := 340) (by decide +kernel)) rfl
theorem mL_X2_90 : Cond.methodLink RX2 90 yX1_valueWhere ∈ WW := WW_of (List.mem_of_getElem? (i := 341) (by decide +kernel)) rfl
theorem yI_X1_valueWhere : Cond.instanceMethod yX1_valueWhere ∈ WW := WW_of (List.mem_of_getElem? (i := 342) (by decide +kernel)) rfl
theorem sl_X1_valueWhere : Cond.selects RX1 yX1_valueWhere yX1_valueWhere ∈ WW := WW_of (List.mem_of_getElem? (i := 343) (by decide +kernel)) rfl
theorem cd_X1_valueWhere : Cond.code yX1_valueWhere prog_3_method_10_code 5 (some .long) ∈ WW := WW_of (List.mem_of_getElem? (i := 344) (by decide +kernel)) rfl
theorem mL_L_94 : Cond.methodLink RL 94 yL_prove ∈ WW := WW_of (List.mem_of_getElem? (i := 345) (by decide +kernel)) rfl
theorem yS_L_prove : Cond.static yL_prove ∈ WW := WW_of (List.mem_of_getElem? (i := 346) (by decide +kernel)) rfl
theorem cd_L_prove : Cond.codeWith yL_prove method_8_code 3 (some .int) [(0, 8, 11, 36)] ∈ WW := WW_of (List.mem_of_getElem? (i := 347) (by decide +kernel)) rfl
theorem kL_L_36 : Cond.classLink RL 36 "java/lang/ArithmeticException" ∈ WW := WW_of (List.mem_of_getElem? (i := 348) (by decide +kernel)) rfl
theorem iT__java_lang_ArithmeticException : Cond.instantiable "java/lang/ArithmeticException" 6 ∈ WW := WW_of (List.mem_of_getElem? (i := 349) (by decide +kernel)) rfl
theorem iT_J0 : Cond.instantiable RJ0 4 ∈ WW := WW_of (List.mem_of_getElem? (i := 362) (by decide +kernel)) rfl
theorem mL_L_33 : Cond.methodLink RL 33 yX2_prove ∈ WW := WW_of (List.mem_of_getElem? (i := 367) (by decide +kernel)) rfl
theorem yI_X2_prove : Cond.instanceMethod yX2_prove ∈ WW := WW_of (List.mem_of_getElem? (i := 368) (by decide +kernel)) rfl
theorem sl_X2_prove : Cond.selects RX2 yX2_prove yX2_prove ∈ WW := WW_of (List.mem_of_getElem? (i := 369) (by decide +kernel)) rfl
theorem cd_X2_prove : Cond.code yX2_prove prog_1_method_8_code 3 (some .int) ∈ WW := WW_of (List.mem_of_getElem? (i := 370) (by decide +kernel)) rfl
theorem mL_X2_94 : Cond.methodLink RX2 94 yX1_becomeCopy ∈ WW := WW_of (List.mem_of_getElem? (i := 371) (by decide +kernel)) rfl
theorem yI_X1_becomeCopy : Cond.instanceMethod yX1_becomeCopy ∈ WW := WW_of (List.mem_of_getElem? (i := 372) (by decide +kernel)) rfl
theorem sl_X1_becomeCopy : Cond.selects RX1 yX1_becomeCopy yX1_becomeCopy ∈ WW := WW_of (List.mem_of_getElem? (i := 373) (by decide +kernel)) rfl
theorem cd_X1_becomeCopy : Cond.code yX1_becomeCopy prog_3_method_3_code 2 none ∈ WW := WW_of (List.mem_of_getElem? (i := 374) (by decide +kernel)) rfl
theorem mL_X1_25 : Cond.methodLink RX1 25 (⟨"java/lang/System", "arraycopy", "(Ljava/lang/Object;ILjava/lang/Object;II)V"⟩ : MethodName) ∈ WW := WW_of (List.mem_of_getElem? (i := 375) (by decide +kernel)) rfl
theorem yS_arraycopy : Cond.static (⟨"java/lang/System", "arraycopy", "(Ljava/lang/Object;ILjava/lang/Object;II)V"⟩ : MethodName) ∈ WW := WW_of (List.mem_of_getElem? (i := 376) (by decide +kernel)) rfl
theorem nA_arraycopy : Cond.native (⟨"java/lang/System", "arraycopy", "(Ljava/lang/Object;ILjava/lang/Object;II)V"⟩ : MethodName) ∈ WW := WW_of (List.mem_of_getElem? (i := 377) (by decide +kernel)) rfl
theorem mL_X2_101 : Cond.methodLink RX2 101 yX1_becomeElimination ∈ WW := WW_of (List.mem_of_getElem? (i := 378) (by decide +kernel)) rfl
theorem yI_X1_becomeElimination : Cond.instanceMethod yX1_becomeElimination ∈ WW := WW_of (List.mem_of_getElem? (i := 379) (by decide +kernel)) rfl
theorem sl_X1_becomeElimination : Cond.selects RX1 yX1_becomeElimination yX1_becomeElimination ∈ WW := WW_of (List.mem_of_getElem? (i := 380) (by decide +kernel)) rfl
theorem cd_X1_becomeElimination : Cond.code yX1_becomeElimination prog_3_method_4_code 7 none ∈ WW := WW_of (List.mem_of_getElem? (i := 381) (by decide +kernel)) rfl
theorem mL_X1_31 : Cond.methodLink RX1 31 yX1_erase ∈ WW := WW_of (List.mem_of_getElem? (i := 382) (by decide +kernel)) rfl
theorem mL_X1_34 : Cond.methodLink RX1 34 yX1_increase ∈ WW := WW_of (List.mem_of_getElem? (i := 383) (by decide +kernel)) rfl
theorem mL_X1_38 : Cond.methodLink RX1 38 yX0_addProduct ∈ WW := WW_of (List.mem_of_getElem? (i := 384) (by decide +kernel)) rfl
theorem yI_X0_addProduct : Cond.instanceMethod yX0_addProduct ∈ WW := WW_of (List.mem_of_getElem? (i := 385) (by decide +kernel)) rfl
theorem sl_X0_addProduct : Cond.selects RX0 yX0_addProduct yX0_addProduct ∈ WW := WW_of (List.mem_of_getElem? (i := 386) (by decide +kernel)) rfl
theorem cd_X0_addProduct : Cond.code yX0_addProduct prog_2_method_4_code 6 none ∈ WW := WW_of (List.mem_of_getElem? (i := 387) (by decide +kernel)) rfl
theorem mL_X0_48 : Cond.methodLink RX0 48 yX1_increase ∈ WW := WW_of (List.mem_of_getElem? (i := 388) (by decide +kernel)) rfl
theorem mL_X2_105 : Cond.methodLink RX2 105 yX1_monomialCount ∈ WW := WW_of (List.mem_of_getElem? (i := 389) (by decide +kernel)) rfl
theorem yI_X1_monomialCount : Cond.instanceMethod yX1_monomialCount ∈ WW := WW_of (List.mem_of_getElem? (i := 390) (by decide +kernel)) rfl
theorem sl_X1_monomialCount : Cond.selects RX1 yX1_monomialCount yX1_monomialCount ∈ WW := WW_of (List.mem_of_getElem? (i := 391) (by decide +kernel)) rfl
theorem cd_X1_monomialCount : Cond.code yX1_monomialCount prog_3_method_7_code 1 (some .int) ∈ WW := WW_of (List.mem_of_getElem? (i := 392) (by decide +kernel)) rfl
theorem kL_X2_108 : Cond.classLink RX2 108 "java/lang/ArithmeticException" ∈ WW := WW_of (List.mem_of_getElem? (i := 393) (by decide +kernel)) rfl
theorem mL_X2_112 : Cond.methodLink RX2 112 (⟨"java/lang/ArithmeticException", "<init>", "(Ljava/lang/String;)V"⟩ : MethodName) ∈ WW := WW_of (List.mem_of_getElem? (i := 395) (by decide +kernel)) rfl
theorem mL_L_101 : Cond.methodLink RL 101 yL_size ∈ WW := WW_of (List.mem_of_getElem? (i := 396) (by decide +kernel)) rfl
theorem yS_L_size : Cond.static yL_size ∈ WW := WW_of (List.mem_of_getElem? (i := 397) (by decide +kernel)) rfl
theorem cd_L_size : Cond.codeWith yL_size method_9_code 4 (some .int) [(0, 9, 12, 13), (0, 9, 15, 41)] ∈ WW := WW_of (List.mem_of_getElem? (i := 398) (by decide +kernel)) rfl
theorem kL_L_41 : Cond.classLink RL 41 "java/lang/IndexOutOfBoundsException" ∈ WW := WW_of (List.mem_of_getElem? (i := 399) (by decide +kernel)) rfl
theorem iT_Jx00060 : Cond.instantiable RJx00060 6 ∈ WW := WW_of (List.mem_of_getElem? (i := 400) (by decide +kernel)) rfl
theorem yI_Jx00060_init_a7421 : Cond.instanceMethod yJx00060_init_a7421 ∈ WW := WW_of (List.mem_of_getElem? (i := 401) (by decide +kernel)) rfl
theorem cd_Jx00060_init_a7421 : Cond.code yJx00060_init_a7421 prog_8_method_2_code 2 none ∈ WW := WW_of (List.mem_of_getElem? (i := 402) (by decide +kernel)) rfl
theorem mL_L_38 : Cond.methodLink RL 38 yX2_size ∈ WW := WW_of (List.mem_of_getElem? (i := 418) (by decide +kernel)) rfl
theorem yI_X2_size : Cond.instanceMethod yX2_size ∈ WW := WW_of (List.mem_of_getElem? (i := 419) (by decide +kernel)) rfl
theorem sl_X2_size : Cond.selects RX2 yX2_size yX2_size ∈ WW := WW_of (List.mem_of_getElem? (i := 420) (by decide +kernel)) rfl
theorem cd_X2_size : Cond.code yX2_size prog_1_method_10_code 2 (some .int) ∈ WW := WW_of (List.mem_of_getElem? (i := 421) (by decide +kernel)) rfl
theorem mL_X2_116 : Cond.methodLink RX2 116 yX2_lineAt ∈ WW := WW_of (List.mem_of_getElem? (i := 422) (by decide +kernel)) rfl
theorem yI_X2_lineAt : Cond.instanceMethod yX2_lineAt ∈ WW := WW_of (List.mem_of_getElem? (i := 424) (by decide +kernel)) rfl
theorem cd_X2_lineAt : Cond.code yX2_lineAt prog_1_method_23_code 2 (some (.object "GatePolynomials$Polynomial")) ∈ WW := WW_of (List.mem_of_getElem? (i := 425) (by decide +kernel)) rfl
theorem mL_X2_136 : Cond.methodLink RX2 136 yX2_refuseWithoutProof ∈ WW := WW_of (List.mem_of_getElem? (i := 426) (by decide +kernel)) rfl
theorem yI_X2_refuseWithoutProof : Cond.instanceMethod yX2_refuseWithoutProof ∈ WW := WW_of (List.mem_of_getElem? (i := 428) (by decide +kernel)) rfl
theorem cd_X2_refuseWithoutProof : Cond.code yX2_refuseWithoutProof prog_1_method_21_code 1 none ∈ WW := WW_of (List.mem_of_getElem? (i := 429) (by decide +kernel)) rfl
theorem kL_X2_120 : Cond.classLink RX2 120 "java/lang/IndexOutOfBoundsException" ∈ WW := WW_of (List.mem_of_getElem? (i := 431) (by decide +kernel)) rfl
theorem iT__java_lang_IndexOutOfBoundsException : Cond.instantiable "java/lang/IndexOutOfBoundsException" 6 ∈ WW := WW_of (List.mem_of_getElem? (i := 432) (by decide +kernel)) rfl
theorem mL_X2_124 : Cond.methodLink RX2 124 (⟨"java/lang/IndexOutOfBoundsException", "<init>", "(Ljava/lang/String;)V"⟩ : MethodName) ∈ WW := WW_of (List.mem_of_getElem? (i := 441) (by decide +kernel)) rfl
theorem mL_L_104 : Cond.methodLink RL 104 yL_monomial ∈ WW := WW_of (List.mem_of_getElem? (i := 444) (by decide +kernel)) rfl
theorem yS_L_monomial : Cond.static yL_monomial ∈ WW := WW_of (List.mem_of_getElem? (i := 445) (by decide +kernel)) rfl
theorem cd_L_monomial : Cond.codeWith yL_monomial method_10_code 5 (some .int) [(0, 10, 13, 13), (0, 10, 17, 41)] ∈ WW := WW_of (List.mem_of_getElem? (i := 446) (by decide +kernel)) rfl
theorem mL_L_43 : Cond.methodLink RL 43 yX2_monomial ∈ WW := WW_of (List.mem_of_getElem? (i := 447) (by decide +kernel)) rfl
theorem yI_X2_monomial : Cond.instanceMethod yX2_monomial ∈ WW := WW_of (List.mem_of_getElem? (i := 448) (by decide +kernel)) rfl
theorem sl_X2_monomial : Cond.selects RX2 yX2_monomial yX2_monomial ∈ WW := WW_of (List.mem_of_getElem? (i := 449) (by decide +kernel)) rfl
theorem cd_X2_monomial : Cond.code yX2_monomial prog_1_method_11_code 4 (some .int) ∈ WW := WW_of (List.mem_of_getElem? (i := 450) (by decide +kernel)) rfl
theorem mL_X2_125 : Cond.methodLink RX2 125 yX1_monomialAt ∈ WW := WW_of (List.mem_of_getElem? (i := 452) (by decide +kernel)) rfl
theorem yI_X1_monomialAt : Cond.instanceMethod yX1_monomialAt ∈ WW := WW_of (List.mem_of_getElem? (i := 453) (by decide +kernel)) rfl
theorem sl_X1_monomialAt : Cond.selects RX1 yX1_monomialAt yX1_monomialAt ∈ WW := WW_of (List.mem_of_getElem? (i := 454) (by decide +kernel)) rfl
theorem cd_X1_monomialAt : Cond.code yX1_monomialAt prog_3_method_8_code 4 (some .int) ∈ WW := WW_of (List.mem_of_getElem? (i := 455) (by decide +kernel)) rfl
theorem mL_L_107 : Cond.methodLink RL 107 yL_coefficient ∈ WW := WW_of (List.mem_of_getElem? (i := 456) (by decide +kernel)) rfl
theorem yS_L_coefficient : Cond.static yL_coefficient ∈ WW := WW_of (List.mem_of_getElem? (i := 457) (by decide +kernel)) rfl
theorem cd_L_coefficient : Cond.codeWith yL_coefficient method_11_code 5 (some .int) [(0, 9, 12, 13), (0, 9, 16, 41)] ∈ WW := WW_of (List.mem_of_getElem? (i := 458) (by decide +kernel)) rfl
theorem mL_L_46 : Cond.methodLink RL 46 yX2_coefficient ∈ WW := WW_of (List.mem_of_getElem? (i := 459) (by decide +kernel)) rfl
theorem yI_X2_coefficient : Cond.instanceMethod yX2_coefficient ∈ WW := WW_of (List.mem_of_getElem? (i := 460) (by decide +kernel)) rfl
theorem sl_X2_coefficient : Cond.selects RX2 yX2_coefficient yX2_coefficient ∈ WW := WW_of (List.mem_of_getElem? (i := 461) (by decide +kernel)) rfl
theorem cd_X2_coefficient : Cond.code yX2_coefficient prog_1_method_12_code 4 (some .long) ∈ WW := WW_of (List.mem_of_getElem? (i := 462) (by decide +kernel)) rfl
theorem mL_X2_128 : Cond.methodLink RX2 128 yX2_refuseSetOutside ∈ WW := WW_of (List.mem_of_getElem? (i := 463) (by decide +kernel)) rfl
theorem yI_X2_refuseSetOutside : Cond.instanceMethod yX2_refuseSetOutside ∈ WW := WW_of (List.mem_of_getElem? (i := 465) (by decide +kernel)) rfl
theorem cd_X2_refuseSetOutside : Cond.code yX2_refuseSetOutside prog_1_method_22_code 2 none ∈ WW := WW_of (List.mem_of_getElem? (i := 466) (by decide +kernel)) rfl
theorem mL_X2_131 : Cond.methodLink RX2 131 yX1_numberOf ∈ WW := WW_of (List.mem_of_getElem? (i := 467) (by decide +kernel)) rfl
theorem yI_X1_numberOf : Cond.instanceMethod yX1_numberOf ∈ WW := WW_of (List.mem_of_getElem? (i := 468) (by decide +kernel)) rfl
theorem sl_X1_numberOf : Cond.selects RX1 yX1_numberOf yX1_numberOf ∈ WW := WW_of (List.mem_of_getElem? (i := 469) (by decide +kernel)) rfl
theorem cd_X1_numberOf : Cond.code yX1_numberOf prog_3_method_6_code 2 (some .long) ∈ WW := WW_of (List.mem_of_getElem? (i := 470) (by decide +kernel)) rfl
theorem mL_L_110 : Cond.methodLink RL 110 yL_spoil ∈ WW := WW_of (List.mem_of_getElem? (i := 471) (by decide +kernel)) rfl
theorem yS_L_spoil : Cond.static yL_spoil ∈ WW := WW_of (List.mem_of_getElem? (i := 472) (by decide +kernel)) rfl
theorem cd_L_spoil : Cond.codeWith yL_spoil method_12_code 6 (some .int) [(0, 11, 14, 13), (0, 11, 18, 41), (0, 11, 22, 36)] ∈ WW := WW_of (List.mem_of_getElem? (i := 473) (by decide +kernel)) rfl
theorem mL_L_50 : Cond.methodLink RL 50 yX2_spoil ∈ WW := WW_of (List.mem_of_getElem? (i := 474) (by decide +kernel)) rfl
theorem yI_X2_spoil : Cond.instanceMethod yX2_spoil ∈ WW := WW_of (List.mem_of_getElem? (i := 475) (by decide +kernel)) rfl
theorem sl_X2_spoil : Cond.selects RX2 yX2_spoil yX2_spoil ∈ WW := WW_of (List.mem_of_getElem? (i := 476) (by decide +kernel)) rfl
theorem cd_X2_spoil : Cond.code yX2_spoil prog_1_method_13_code 6 (some .long) ∈ WW := WW_of (List.mem_of_getElem? (i := 477) (by decide +kernel)) rfl
theorem mL_L_114 : Cond.methodLink RL 114 yL_check ∈ WW := WW_of (List.mem_of_getElem? (i := 479) (by decide +kernel)) rfl
theorem yS_L_check : Cond.static yL_check ∈ WW := WW_of (List.mem_of_getElem? (i := 480) (by decide +kernel)) rfl
theorem cd_L_check : Cond.codeWith yL_check method_13_code 3 (some .int) [(0, 8, 11, 13)] ∈ WW := WW_of (List.mem_of_getElem? (i := 481) (by decide +kernel)) rfl
theorem mL_L_54 : Cond.methodLink RL 54 yX2_check ∈ WW := WW_of (List.mem_of_getElem? (i := 482) (by decide +kernel)) rfl
theorem yI_X2_check : Cond.instanceMethod yX2_check ∈ WW := WW_of (List.mem_of_getElem? (i := 483) (by decide +kernel)) rfl
theorem sl_X2_check : Cond.selects RX2 yX2_check yX2_check ∈ WW := WW_of (List.mem_of_getElem? (i := 484) (by decide +kernel)) rfl
theorem cd_X2_check : Cond.code yX2_check prog_1_method_14_code 3 (some .int) ∈ WW := WW_of (List.mem_of_getElem? (i := 485) (by decide +kernel)) rfl
theorem mL_X2_139 : Cond.methodLink RX2 139 yX1_isSameAs ∈ WW := WW_of (List.mem_of_getElem? (i := 486) (by decide +kernel)) rfl
theorem yI_X1_isSameAs : Cond.instanceMethod yX1_isSameAs ∈ WW := WW_of (List.mem_of_getElem? (i := 487) (by decide +kernel)) rfl
theorem sl_X1_isSameAs : Cond.selects RX1 yX1_isSameAs yX1_isSameAs ∈ WW := WW_of (List.mem_of_getElem? (i := 488) (by decide +kernel)) rfl
theorem cd_X1_isSameAs : Cond.code yX1_isSameAs prog_3_method_11_code 3 (some .boolean) ∈ WW := WW_of (List.mem_of_getElem? (i := 489) (by decide +kernel)) rfl
theorem mL_L_117 : Cond.methodLink RL 117 yL_witness ∈ WW := WW_of (List.mem_of_getElem? (i := 490) (by decide +kernel)) rfl
theorem yS_L_witness : Cond.static yL_witness ∈ WW := WW_of (List.mem_of_getElem? (i := 491) (by decide +kernel)) rfl
theorem cd_L_witness : Cond.codeWith yL_witness method_14_code 3 (some .int) [(0, 8, 11, 13), (0, 8, 14, 60)] ∈ WW := WW_of (List.mem_of_getElem? (i := 492) (by decide +kernel)) rfl
theorem kL_L_60 : Cond.classLink RL 60 "java/util/NoSuchElementException" ∈ WW := WW_of (List.mem_of_getElem? (i := 493) (by decide +kernel)) rfl
theorem mL_L_57 : Cond.methodLink RL 57 yX2_witness ∈ WW := WW_of (List.mem_of_getElem? (i := 494) (by decide +kernel)) rfl
theorem yI_X2_witness : Cond.instanceMethod yX2_witness ∈ WW := WW_of (List.mem_of_getElem? (i := 495) (by decide +kernel)) rfl
theorem sl_X2_witness : Cond.selects RX2 yX2_witness yX2_witness ∈ WW := WW_of (List.mem_of_getElem? (i := 496) (by decide +kernel)) rfl
theorem cd_X2_witness : Cond.code yX2_witness prog_1_method_15_code 2 (some .int) ∈ WW := WW_of (List.mem_of_getElem? (i := 497) (by decide +kernel)) rfl
theorem kL_X2_143 : Cond.classLink RX2 143 "java/util/NoSuchElementException" ∈ WW := WW_of (List.mem_of_getElem? (i := 498) (by decide +kernel)) rfl
theorem iT__java_util_NoSuchElementException : Cond.instantiable "java/util/NoSuchElementException" 6 ∈ WW := WW_of (List.mem_of_getElem? (i := 499) (by decide +kernel)) rfl
theorem mL_X2_147 : Cond.methodLink RX2 147 (⟨"java/util/NoSuchElementException", "<init>", "(Ljava/lang/String;)V"⟩ : MethodName) ∈ WW := WW_of (List.mem_of_getElem? (i := 508) (by decide +kernel)) rfl
theorem mL_X2_148 : Cond.methodLink RX2 148 yX1_leastMonomialOfFewestWires ∈ WW := WW_of (List.mem_of_getElem? (i := 514) (by decide +kernel)) rfl
theorem yI_X1_leastMonomialOfFewestWires : Cond.instanceMethod yX1_leastMonomialOfFewestWires ∈ WW := WW_of (List.mem_of_getElem? (i := 515) (by decide +kernel)) rfl
theorem sl_X1_leastMonomialOfFewestWires : Cond.selects RX1 yX1_leastMonomialOfFewestWires yX1_leastMonomialOfFewestWires ∈ WW := WW_of (List.mem_of_getElem? (i := 516) (by decide +kernel)) rfl
theorem cd_X1_leastMonomialOfFewestWires : Cond.code yX1_leastMonomialOfFewestWires prog_3_method_9_code 4 (some .int) ∈ WW := WW_of (List.mem_of_getElem? (i := 517) (by decide +kernel)) rfl
theorem mL_X1_44 : Cond.methodLink RX1 44 yJ6_bitCount_0f7a4 ∈ WW := WW_of (List.mem_of_getElem? (i := 518) (by decide +kernel)) rfl
theorem yS_J6_bitCount_0f7a4 : Cond.static yJ6_bitCount_0f7a4 ∈ WW := WW_of (List.mem_of_getElem? (i := 519) (by decide +kernel)) rfl
theorem cd_J6_bitCount_0f7a4 : Cond.code yJ6_bitCount_0f7a4 prog_13_method_49_code 1 (some .int) ∈ WW := WW_of (List.mem_of_getElem? (i := 520) (by decide +kernel)) rfl
theorem cN_J6_265 : Cond.constant RJ6 265 1431655765 ∈ WW := WW_of (List.mem_of_getElem? (i := 521) (by decide +kernel)) rfl
theorem cN_J6_266 : Cond.constant RJ6 266 858993459 ∈ WW := WW_of (List.mem_of_getElem? (i := 522) (by decide +kernel)) rfl
theorem cN_J6_267 : Cond.constant RJ6 267 252645135 ∈ WW := WW_of (List.mem_of_getElem? (i := 523) (by decide +kernel)) rfl
theorem kL_L_63 : Cond.classLink RL 63 "GatePolynomialsModel" ∈ WW := WW_of (List.mem_of_getElem? (i := 524) (by decide +kernel)) rfl
theorem iT_X3 : Cond.instantiable RX3 14 ∈ WW := WW_of (List.mem_of_getElem? (i := 525) (by decide +kernel)) rfl
theorem mL_L_65 : Cond.methodLink RL 65 yX3_init ∈ WW := WW_of (List.mem_of_getElem? (i := 526) (by decide +kernel)) rfl
theorem yI_X3_init : Cond.instanceMethod yX3_init ∈ WW := WW_of (List.mem_of_getElem? (i := 527) (by decide +kernel)) rfl
theorem cd_X3_init : Cond.code yX3_init prog_5_method_1_code 1 none ∈ WW := WW_of (List.mem_of_getElem? (i := 528) (by decide +kernel)) rfl
theorem mL_X3_1 : Cond.methodLink RX3 1 (⟨"java/lang/Object", "<init>", "()V"⟩ : MethodName) ∈ WW := WW_of (List.mem_of_getElem? (i := 529) (by decide +kernel)) rfl
theorem fL_X3_41 : Cond.fieldLink RX3 41 "GatePolynomialsModel" "thrown" "I" ∈ WW := WW_of (List.mem_of_getElem? (i := 530) (by decide +kernel)) rfl
theorem fL_X3_45 : Cond.fieldLink RX3 45 "GatePolynomialsModel" "wires" "I" ∈ WW := WW_of (List.mem_of_getElem? (i := 531) (by decide +kernel)) rfl
theorem fL_X3_7 : Cond.fieldLink RX3 7 "GatePolynomialsModel" "kind" "[I" ∈ WW := WW_of (List.mem_of_getElem? (i := 532) (by decide +kernel)) rfl
theorem fL_X3_13 : Cond.fieldLink RX3 13 "GatePolynomialsModel" "first" "[I" ∈ WW := WW_of (List.mem_of_getElem? (i := 533) (by decide +kernel)) rfl
theorem fL_X3_16 : Cond.fieldLink RX3 16 "GatePolynomialsModel" "second" "[I" ∈ WW := WW_of (List.mem_of_getElem? (i := 534) (by decide +kernel)) rfl
theorem fL_X3_19 : Cond.fieldLink RX3 19 "GatePolynomialsModel" "third" "[I" ∈ WW := WW_of (List.mem_of_getElem? (i := 535) (by decide +kernel)) rfl
theorem fL_X3_80 : Cond.fieldLink RX3 80 "GatePolynomialsModel" "added" "I" ∈ WW := WW_of (List.mem_of_getElem? (i := 536) (by decide +kernel)) rfl
theorem fL_X3_22 : Cond.fieldLink RX3 22 "GatePolynomialsModel" "claim" "[J" ∈ WW := WW_of (List.mem_of_getElem? (i := 537) (by decide +kernel)) rfl
theorem fL_X3_52 : Cond.fieldLink RX3 52 "GatePolynomialsModel" "lines" "I" ∈ WW := WW_of (List.mem_of_getElem? (i := 538) (by decide +kernel)) rfl
theorem fL_X3_26 : Cond.fieldLink RX3 26 "GatePolynomialsModel" "sizes" "[I" ∈ WW := WW_of (List.mem_of_getElem? (i := 539) (by decide +kernel)) rfl
theorem fL_X3_29 : Cond.fieldLink RX3 29 "GatePolynomialsModel" "sets" "[I" ∈ WW := WW_of (List.mem_of_getElem? (i := 540) (by decide +kernel)) rfl
theorem fL_X3_32 : Cond.fieldLink RX3 32 "GatePolynomialsModel" "numbers" "[J" ∈ WW := WW_of (List.mem_of_getElem? (i := 541) (by decide +kernel)) rfl
theorem fL_X3_35 : Cond.fieldLink RX3 35 "GatePolynomialsModel" "work" "[J" ∈ WW := WW_of (List.mem_of_getElem? (i := 542) (by decide +kernel)) rfl
theorem fL_X3_38 : Cond.fieldLink RX3 38 "GatePolynomialsModel" "from" "[J" ∈ WW := WW_of (List.mem_of_getElem? (i := 543) (by decide +kernel)) rfl
theorem mL_L_72 : Cond.methodLink RL 72 yX3_thrown ∈ WW := WW_of (List.mem_of_getElem? (i := 573) (by decide +kernel)) rfl
theorem yI_X3_thrown : Cond.instanceMethod yX3_thrown ∈ WW := WW_of (List.mem_of_getElem? (i := 574) (by decide +kernel)) rfl
theorem sl_X3_thrown : Cond.selects RX3 yX3_thrown yX3_thrown ∈ WW := WW_of (List.mem_of_getElem? (i := 575) (by decide +kernel)) rfl
theorem cd_X3_thrown : Cond.code yX3_thrown prog_5_method_2_code 1 (some .int) ∈ WW := WW_of (List.mem_of_getElem? (i := 576) (by decide +kernel)) rfl
theorem mL_L_71 : Cond.methodLink RL 71 yX3_input ∈ WW := WW_of (List.mem_of_getElem? (i := 577) (by decide +kernel)) rfl
theorem yI_X3_input : Cond.instanceMethod yX3_input ∈ WW := WW_of (List.mem_of_getElem? (i := 578) (by decide +kernel)) rfl
theorem sl_X3_input : Cond.selects RX3 yX3_input yX3_input ∈ WW := WW_of (List.mem_of_getElem? (i := 579) (by decide +kernel)) rfl
theorem cd_X3_input : Cond.code yX3_input prog_5_method_5_code 1 (some .int) ∈ WW := WW_of (List.mem_of_getElem? (i := 580) (by decide +kernel)) rfl
theorem mL_L_78 : Cond.methodLink RL 78 yX3_gate ∈ WW := WW_of (List.mem_of_getElem? (i := 581) (by decide +kernel)) rfl
theorem yI_X3_gate : Cond.instanceMethod yX3_gate ∈ WW := WW_of (List.mem_of_getElem? (i := 582) (by decide +kernel)) rfl
theorem sl_X3_gate : Cond.selects RX3 yX3_gate yX3_gate ∈ WW := WW_of (List.mem_of_getElem? (i := 583) (by decide +kernel)) rfl
theorem cd_X3_gate : Cond.code yX3_gate prog_5_method_7_code 6 (some .int) ∈ WW := WW_of (List.mem_of_getElem? (i := 584) (by decide +kernel)) rfl
theorem mL_X3_48 : Cond.methodLink RX3 48 yX3_within ∈ WW := WW_of (List.mem_of_getElem? (i := 585) (by decide +kernel)) rfl
theorem yS_X3_within : Cond.static yX3_within ∈ WW := WW_of (List.mem_of_getElem? (i := 586) (by decide +kernel)) rfl
theorem cd_X3_within : Cond.code yX3_within prog_5_method_3_code 3 (some .boolean) ∈ WW := WW_of (List.mem_of_getElem? (i := 587) (by decide +kernel)) rfl
theorem mL_X3_55 : Cond.methodLink RX3 55 yX3_isLiteral ∈ WW := WW_of (List.mem_of_getElem? (i := 588) (by decide +kernel)) rfl
theorem yI_X3_isLiteral : Cond.instanceMethod yX3_isLiteral ∈ WW := WW_of (List.mem_of_getElem? (i := 590) (by decide +kernel)) rfl
theorem cd_X3_isLiteral : Cond.code yX3_isLiteral prog_5_method_6_code 2 (some .boolean) ∈ WW := WW_of (List.mem_of_getElem? (i := 591) (by decide +kernel)) rfl
theorem mL_L_82 : Cond.methodLink RL 82 yX3_wires ∈ WW := WW_of (List.mem_of_getElem? (i := 592) (by decide +kernel)) rfl
theorem yI_X3_wires : Cond.instanceMethod yX3_wires ∈ WW := WW_of (List.mem_of_getElem? (i := 593) (by decide +kernel)) rfl
theorem sl_X3_wires : Cond.selects RX3 yX3_wires yX3_wires ∈ WW := WW_of (List.mem_of_getElem? (i := 594) (by decide +kernel)) rfl
theorem cd_X3_wires : Cond.code yX3_wires prog_5_method_8_code 1 (some .int) ∈ WW := WW_of (List.mem_of_getElem? (i := 595) (by decide +kernel)) rfl
theorem mL_L_90 : Cond.methodLink RL 90 yX3_simulate ∈ WW := WW_of (List.mem_of_getElem? (i := 596) (by decide +kernel)) rfl
theorem yI_X3_simulate : Cond.instanceMethod yX3_simulate ∈ WW := WW_of (List.mem_of_getElem? (i := 597) (by decide +kernel)) rfl
theorem sl_X3_simulate : Cond.selects RX3 yX3_simulate yX3_simulate ∈ WW := WW_of (List.mem_of_getElem? (i := 598) (by decide +kernel)) rfl
theorem cd_X3_simulate : Cond.code yX3_simulate prog_5_method_13_code 2 (some .int) ∈ WW := WW_of (List.mem_of_getElem? (i := 599) (by decide +kernel)) rfl
theorem mL_X3_69 : Cond.methodLink RX3 69 yX3_areInputs ∈ WW := WW_of (List.mem_of_getElem? (i := 600) (by decide +kernel)) rfl
theorem yI_X3_areInputs : Cond.instanceMethod yX3_areInputs ∈ WW := WW_of (List.mem_of_getElem? (i := 602) (by decide +kernel)) rfl
theorem cd_X3_areInputs : Cond.code yX3_areInputs prog_5_method_11_code 4 (some .boolean) ∈ WW := WW_of (List.mem_of_getElem? (i := 603) (by decide +kernel)) rfl
theorem mL_X3_63 : Cond.methodLink RX3 63 yX3_isSet ∈ WW := WW_of (List.mem_of_getElem? (i := 604) (by decide +kernel)) rfl
theorem yI_X3_isSet : Cond.instanceMethod yX3_isSet ∈ WW := WW_of (List.mem_of_getElem? (i := 606) (by decide +kernel)) rfl
theorem cd_X3_isSet : Cond.code yX3_isSet prog_5_method_4_code 2 (some .boolean) ∈ WW := WW_of (List.mem_of_getElem? (i := 607) (by decide +kernel)) rfl
theorem mL_X3_72 : Cond.methodLink RX3 72 yX3_settled ∈ WW := WW_of (List.mem_of_getElem? (i := 608) (by decide +kernel)) rfl
theorem yI_X3_settled : Cond.instanceMethod yX3_settled ∈ WW := WW_of (List.mem_of_getElem? (i := 610) (by decide +kernel)) rfl
theorem cd_X3_settled : Cond.code yX3_settled prog_5_method_12_code 4 (some .int) ∈ WW := WW_of (List.mem_of_getElem? (i := 611) (by decide +kernel)) rfl
theorem mL_X3_66 : Cond.methodLink RX3 66 yX3_made ∈ WW := WW_of (List.mem_of_getElem? (i := 612) (by decide +kernel)) rfl
theorem yI_X3_made : Cond.instanceMethod yX3_made ∈ WW := WW_of (List.mem_of_getElem? (i := 614) (by decide +kernel)) rfl
theorem cd_X3_made : Cond.code yX3_made prog_5_method_10_code 6 (some .int) ∈ WW := WW_of (List.mem_of_getElem? (i := 615) (by decide +kernel)) rfl
theorem mL_X3_59 : Cond.methodLink RX3 59 yX3_literal ∈ WW := WW_of (List.mem_of_getElem? (i := 616) (by decide +kernel)) rfl
theorem yS_X3_literal : Cond.static yX3_literal ∈ WW := WW_of (List.mem_of_getElem? (i := 617) (by decide +kernel)) rfl
theorem cd_X3_literal : Cond.code yX3_literal prog_5_method_9_code 3 (some .int) ∈ WW := WW_of (List.mem_of_getElem? (i := 618) (by decide +kernel)) rfl
theorem mL_L_93 : Cond.methodLink RL 93 yX3_evaluate ∈ WW := WW_of (List.mem_of_getElem? (i := 619) (by decide +kernel)) rfl
theorem yI_X3_evaluate : Cond.instanceMethod yX3_evaluate ∈ WW := WW_of (List.mem_of_getElem? (i := 620) (by decide +kernel)) rfl
theorem sl_X3_evaluate : Cond.selects RX3 yX3_evaluate yX3_evaluate ∈ WW := WW_of (List.mem_of_getElem? (i := 621) (by decide +kernel)) rfl
theorem cd_X3_evaluate : Cond.code yX3_evaluate prog_5_method_15_code 2 (some .long) ∈ WW := WW_of (List.mem_of_getElem? (i := 622) (by decide +kernel)) rfl
theorem mL_X3_76 : Cond.methodLink RX3 76 yX3_claimed ∈ WW := WW_of (List.mem_of_getElem? (i := 623) (by decide +kernel)) rfl
theorem yI_X3_claimed : Cond.instanceMethod yX3_claimed ∈ WW := WW_of (List.mem_of_getElem? (i := 625) (by decide +kernel)) rfl
theorem cd_X3_claimed : Cond.code yX3_claimed prog_5_method_14_code 5 (some .long) ∈ WW := WW_of (List.mem_of_getElem? (i := 626) (by decide +kernel)) rfl
theorem mL_L_86 : Cond.methodLink RL 86 yX3_add ∈ WW := WW_of (List.mem_of_getElem? (i := 627) (by decide +kernel)) rfl
theorem yI_X3_add : Cond.instanceMethod yX3_add ∈ WW := WW_of (List.mem_of_getElem? (i := 628) (by decide +kernel)) rfl
theorem sl_X3_add : Cond.selects RX3 yX3_add yX3_add ∈ WW := WW_of (List.mem_of_getElem? (i := 629) (by decide +kernel)) rfl
theorem cd_X3_add : Cond.code yX3_add prog_5_method_16_code 3 (some .int) ∈ WW := WW_of (List.mem_of_getElem? (i := 630) (by decide +kernel)) rfl
theorem mL_L_96 : Cond.methodLink RL 96 yX3_prove ∈ WW := WW_of (List.mem_of_getElem? (i := 631) (by decide +kernel)) rfl
theorem yI_X3_prove : Cond.instanceMethod yX3_prove ∈ WW := WW_of (List.mem_of_getElem? (i := 632) (by decide +kernel)) rfl
theorem sl_X3_prove : Cond.selects RX3 yX3_prove yX3_prove ∈ WW := WW_of (List.mem_of_getElem? (i := 633) (by decide +kernel)) rfl
theorem cd_X3_prove : Cond.code yX3_prove prog_5_method_27_code 1 (some .int) ∈ WW := WW_of (List.mem_of_getElem? (i := 634) (by decide +kernel)) rfl
theorem mL_X3_106 : Cond.methodLink RX3 106 yX3_derived ∈ WW := WW_of (List.mem_of_getElem? (i := 635) (by decide +kernel)) rfl
theorem yI_X3_derived : Cond.instanceMethod yX3_derived ∈ WW := WW_of (List.mem_of_getElem? (i := 637) (by decide +kernel)) rfl
theorem cd_X3_derived : Cond.code yX3_derived prog_5_method_26_code 3 (some .boolean) ∈ WW := WW_of (List.mem_of_getElem? (i := 638) (by decide +kernel)) rfl
theorem mL_X3_93 : Cond.methodLink RX3 93 yX3_gates ∈ WW := WW_of (List.mem_of_getElem? (i := 639) (by decide +kernel)) rfl
theorem yI_X3_gates : Cond.instanceMethod yX3_gates ∈ WW := WW_of (List.mem_of_getElem? (i := 641) (by decide +kernel)) rfl
theorem cd_X3_gates : Cond.code yX3_gates prog_5_method_23_code 3 (some .int) ∈ WW := WW_of (List.mem_of_getElem? (i := 642) (by decide +kernel)) rfl
theorem mL_X3_96 : Cond.methodLink RX3 96 yX3_gateWire ∈ WW := WW_of (List.mem_of_getElem? (i := 643) (by decide +kernel)) rfl
theorem yI_X3_gateWire : Cond.instanceMethod yX3_gateWire ∈ WW := WW_of (List.mem_of_getElem? (i := 645) (by decide +kernel)) rfl
theorem cd_X3_gateWire : Cond.code yX3_gateWire prog_5_method_22_code 4 (some .int) ∈ WW := WW_of (List.mem_of_getElem? (i := 646) (by decide +kernel)) rfl
theorem mL_X3_99 : Cond.methodLink RX3 99 yX3_eliminated ∈ WW := WW_of (List.mem_of_getElem? (i := 647) (by decide +kernel)) rfl
theorem yI_X3_eliminated : Cond.instanceMethod yX3_eliminated ∈ WW := WW_of (List.mem_of_getElem? (i := 649) (by decide +kernel)) rfl
theorem cd_X3_eliminated : Cond.code yX3_eliminated prog_5_method_25_code 3 (some .int) ∈ WW := WW_of (List.mem_of_getElem? (i := 650) (by decide +kernel)) rfl
theorem mL_X3_86 : Cond.methodLink RX3 86 yX3_redirected ∈ WW := WW_of (List.mem_of_getElem? (i := 651) (by decide +kernel)) rfl
theorem yI_X3_redirected : Cond.instanceMethod yX3_redirected ∈ WW := WW_of (List.mem_of_getElem? (i := 653) (by decide +kernel)) rfl
theorem cd_X3_redirected : Cond.code yX3_redirected prog_5_method_21_code 4 (some .int) ∈ WW := WW_of (List.mem_of_getElem? (i := 654) (by decide +kernel)) rfl
theorem mL_X3_89 : Cond.methodLink RX3 89 yX3_coefficients ∈ WW := WW_of (List.mem_of_getElem? (i := 655) (by decide +kernel)) rfl
theorem yI_X3_coefficients : Cond.instanceMethod yX3_coefficients ∈ WW := WW_of (List.mem_of_getElem? (i := 657) (by decide +kernel)) rfl
theorem cd_X3_coefficients : Cond.code yX3_coefficients prog_5_method_17_code 4 (some .int) ∈ WW := WW_of (List.mem_of_getElem? (i := 658) (by decide +kernel)) rfl
theorem mL_X3_102 : Cond.methodLink RX3 102 yX3_keep ∈ WW := WW_of (List.mem_of_getElem? (i := 659) (by decide +kernel)) rfl
theorem yI_X3_keep : Cond.instanceMethod yX3_keep ∈ WW := WW_of (List.mem_of_getElem? (i := 661) (by decide +kernel)) rfl
theorem cd_X3_keep : Cond.code yX3_keep prog_5_method_24_code 3 none ∈ WW := WW_of (List.mem_of_getElem? (i := 662) (by decide +kernel)) rfl
theorem mL_L_100 : Cond.methodLink RL 100 yX3_lines ∈ WW := WW_of (List.mem_of_getElem? (i := 663) (by decide +kernel)) rfl
theorem yI_X3_lines : Cond.instanceMethod yX3_lines ∈ WW := WW_of (List.mem_of_getElem? (i := 664) (by decide +kernel)) rfl
theorem sl_X3_lines : Cond.selects RX3 yX3_lines yX3_lines ∈ WW := WW_of (List.mem_of_getElem? (i := 665) (by decide +kernel)) rfl
theorem cd_X3_lines : Cond.code yX3_lines prog_5_method_28_code 1 (some .int) ∈ WW := WW_of (List.mem_of_getElem? (i := 666) (by decide +kernel)) rfl
theorem mL_L_103 : Cond.methodLink RL 103 yX3_size ∈ WW := WW_of (List.mem_of_getElem? (i := 667) (by decide +kernel)) rfl
theorem yI_X3_size : Cond.instanceMethod yX3_size ∈ WW := WW_of (List.mem_of_getElem? (i := 668) (by decide +kernel)) rfl
theorem sl_X3_size : Cond.selects RX3 yX3_size yX3_size ∈ WW := WW_of (List.mem_of_getElem? (i := 669) (by decide +kernel)) rfl
theorem cd_X3_size : Cond.code yX3_size prog_5_method_30_code 2 (some .int) ∈ WW := WW_of (List.mem_of_getElem? (i := 670) (by decide +kernel)) rfl
theorem mL_X3_110 : Cond.methodLink RX3 110 yX3_lack ∈ WW := WW_of (List.mem_of_getElem? (i := 671) (by decide +kernel)) rfl
theorem yI_X3_lack : Cond.instanceMethod yX3_lack ∈ WW := WW_of (List.mem_of_getElem? (i := 673) (by decide +kernel)) rfl
theorem cd_X3_lack : Cond.code yX3_lack prog_5_method_29_code 2 (some .int) ∈ WW := WW_of (List.mem_of_getElem? (i := 674) (by decide +kernel)) rfl
theorem mL_L_106 : Cond.methodLink RL 106 yX3_monomial ∈ WW := WW_of (List.mem_of_getElem? (i := 675) (by decide +kernel)) rfl
theorem yI_X3_monomial : Cond.instanceMethod yX3_monomial ∈ WW := WW_of (List.mem_of_getElem? (i := 676) (by decide +kernel)) rfl
theorem sl_X3_monomial : Cond.selects RX3 yX3_monomial yX3_monomial ∈ WW := WW_of (List.mem_of_getElem? (i := 677) (by decide +kernel)) rfl
theorem cd_X3_monomial : Cond.code yX3_monomial prog_5_method_31_code 5 (some .int) ∈ WW := WW_of (List.mem_of_getElem? (i := 678) (by decide +kernel)) rfl
theorem mL_X3_83 : Cond.methodLink RX3 83 yX3_find ∈ WW := WW_of (List.mem_of_getElem? (i := 679) (by decide +kernel)) rfl
theorem yI_X3_find : Cond.instanceMethod yX3_find ∈ WW := WW_of (List.mem_of_getElem? (i := 681) (by decide +kernel)) rfl
theorem cd_X3_find : Cond.code yX3_find prog_5_method_18_code 4 (some .int) ∈ WW := WW_of (List.mem_of_getElem? (i := 682) (by decide +kernel)) rfl
theorem mL_L_109 : Cond.methodLink RL 109 yX3_coefficient ∈ WW := WW_of (List.mem_of_getElem? (i := 683) (by decide +kernel)) rfl
theorem yI_X3_coefficient : Cond.instanceMethod yX3_coefficient ∈ WW := WW_of (List.mem_of_getElem? (i := 684) (by decide +kernel)) rfl
theorem sl_X3_coefficient : Cond.selects RX3 yX3_coefficient yX3_coefficient ∈ WW := WW_of (List.mem_of_getElem? (i := 685) (by decide +kernel)) rfl
theorem cd_X3_coefficient : Cond.code yX3_coefficient prog_5_method_32_code 3 (some .long) ∈ WW := WW_of (List.mem_of_getElem? (i := 686) (by decide +kernel)) rfl
theorem mL_X3_113 : Cond.methodLink RX3 113 yX3_has ∈ WW := WW_of (List.mem_of_getElem? (i := 687) (by decide +kernel)) rfl
theorem yI_X3_has : Cond.instanceMethod yX3_has ∈ WW := WW_of (List.mem_of_getElem? (i := 689) (by decide +kernel)) rfl
theorem cd_X3_has : Cond.code yX3_has prog_5_method_19_code 4 (some .long) ∈ WW := WW_of (List.mem_of_getElem? (i := 690) (by decide +kernel)) rfl
theorem mL_L_113 : Cond.methodLink RL 113 yX3_spoil ∈ WW := WW_of (List.mem_of_getElem? (i := 691) (by decide +kernel)) rfl
theorem yI_X3_spoil : Cond.instanceMethod yX3_spoil ∈ WW := WW_of (List.mem_of_getElem? (i := 692) (by decide +kernel)) rfl
theorem sl_X3_spoil : Cond.selects RX3 yX3_spoil yX3_spoil ∈ WW := WW_of (List.mem_of_getElem? (i := 693) (by decide +kernel)) rfl
theorem cd_X3_spoil : Cond.code yX3_spoil prog_5_method_33_code 7 (some .long) ∈ WW := WW_of (List.mem_of_getElem? (i := 694) (by decide +kernel)) rfl
theorem mL_L_116 : Cond.methodLink RL 116 yX3_check ∈ WW := WW_of (List.mem_of_getElem? (i := 695) (by decide +kernel)) rfl
theorem yI_X3_check : Cond.instanceMethod yX3_check ∈ WW := WW_of (List.mem_of_getElem? (i := 696) (by decide +kernel)) rfl
theorem sl_X3_check : Cond.selects RX3 yX3_check yX3_check ∈ WW := WW_of (List.mem_of_getElem? (i := 697) (by decide +kernel)) rfl
theorem cd_X3_check : Cond.code yX3_check prog_5_method_35_code 2 (some .int) ∈ WW := WW_of (List.mem_of_getElem? (i := 698) (by decide +kernel)) rfl
theorem mL_X3_120 : Cond.methodLink RX3 120 yX3_right ∈ WW := WW_of (List.mem_of_getElem? (i := 699) (by decide +kernel)) rfl
theorem yI_X3_right : Cond.instanceMethod yX3_right ∈ WW := WW_of (List.mem_of_getElem? (i := 701) (by decide +kernel)) rfl
theorem cd_X3_right : Cond.code yX3_right prog_5_method_34_code 4 (some .boolean) ∈ WW := WW_of (List.mem_of_getElem? (i := 702) (by decide +kernel)) rfl
theorem mL_X3_117 : Cond.methodLink RX3 117 yX3_values ∈ WW := WW_of (List.mem_of_getElem? (i := 703) (by decide +kernel)) rfl
theorem yI_X3_values : Cond.instanceMethod yX3_values ∈ WW := WW_of (List.mem_of_getElem? (i := 705) (by decide +kernel)) rfl
theorem cd_X3_values : Cond.code yX3_values prog_5_method_20_code 4 none ∈ WW := WW_of (List.mem_of_getElem? (i := 706) (by decide +kernel)) rfl
theorem mL_L_119 : Cond.methodLink RL 119 yX3_witness ∈ WW := WW_of (List.mem_of_getElem? (i := 707) (by decide +kernel)) rfl
theorem yI_X3_witness : Cond.instanceMethod yX3_witness ∈ WW := WW_of (List.mem_of_getElem? (i := 708) (by decide +kernel)) rfl
theorem sl_X3_witness : Cond.selects RX3 yX3_witness yX3_witness ∈ WW := WW_of (List.mem_of_getElem? (i := 709) (by decide +kernel)) rfl
theorem cd_X3_witness : Cond.code yX3_witness prog_5_method_37_code 3 (some .int) ∈ WW := WW_of (List.mem_of_getElem? (i := 710) (by decide +kernel)) rfl
theorem mL_X3_123 : Cond.methodLink RX3 123 yX3_many ∈ WW := WW_of (List.mem_of_getElem? (i := 711) (by decide +kernel)) rfl
theorem yS_X3_many : Cond.static yX3_many ∈ WW := WW_of (List.mem_of_getElem? (i := 712) (by decide +kernel)) rfl
theorem cd_X3_many : Cond.code yX3_many prog_5_method_36_code 3 (some .int) ∈ WW := WW_of (List.mem_of_getElem? (i := 713) (by decide +kernel)) rfl
theorem mL_L_123 : Cond.methodLink RL 123 yX3_clear ∈ WW := WW_of (List.mem_of_getElem? (i := 714) (by decide +kernel)) rfl
theorem yI_X3_clear : Cond.instanceMethod yX3_clear ∈ WW := WW_of (List.mem_of_getElem? (i := 715) (by decide +kernel)) rfl
theorem sl_X3_clear : Cond.selects RX3 yX3_clear yX3_clear ∈ WW := WW_of (List.mem_of_getElem? (i := 716) (by decide +kernel)) rfl
theorem cd_X3_clear : Cond.code yX3_clear prog_5_method_38_code 3 (some .int) ∈ WW := WW_of (List.mem_of_getElem? (i := 717) (by decide +kernel)) rfl
theorem sl_X2_dropProof : Cond.selects RX2 yX2_dropProof yX2_dropProof ∈ WW := WW_of (List.mem_of_getElem? (i := 0) (by decide +kernel)) rfl
theorem sl_X2_refuseTenthWire : Cond.selects RX2 yX2_refuseTenthWire yX2_refuseTenthWire ∈ WW := WW_of (List.mem_of_getElem? (i := 1) (by decide +kernel)) rfl
theorem sl_X2_countNewWire : Cond.selects RX2 yX2_countNewWire yX2_countNewWire ∈ WW := WW_of (List.mem_of_getElem? (i := 3) (by decide +kernel)) rfl
theorem sl_X2_isLiteral : Cond.selects RX2 yX2_isLiteral yX2_isLiteral ∈ WW := WW_of (List.mem_of_getElem? (i := 4) (by decide +kernel)) rfl
theorem sl_X0_setTermToValue : Cond.selects RX0 yX0_setTermToValue yX0_setTermToValue ∈ WW := WW_of (List.mem_of_getElem? (i := 5) (by decide +kernel)) rfl
theorem sl_X0_outcome : Cond.selects RX0 yX0_outcome yX0_outcome ∈ WW := WW_of (List.mem_of_getElem? (i := 6) (by decide +kernel)) rfl
theorem sl_X0_turnValuesToNumbers : Cond.selects RX0 yX0_turnValuesToNumbers yX0_turnValuesToNumbers ∈ WW := WW_of (List.mem_of_getElem? (i := 7) (by decide +kernel)) rfl
theorem sl_X2_isSet : Cond.selects RX2 yX2_isSet yX2_isSet ∈ WW := WW_of (List.mem_of_getElem? (i := 8) (by decide +kernel)) rfl
theorem sl_X2_refuseOtherThanInputs : Cond.selects RX2 yX2_refuseOtherThanInputs yX2_refuseOtherThanInputs ∈ WW := WW_of (List.mem_of_getElem? (i := 9) (by decide +kernel)) rfl
theorem sl_X2_wiresThatAreOne : Cond.selects RX2 yX2_wiresThatAreOne yX2_wiresThatAreOne ∈ WW := WW_of (List.mem_of_getElem? (i := 10) (by decide +kernel)) rfl
theorem sl_X2_isGate : Cond.selects RX2 yX2_isGate yX2_isGate ∈ WW := WW_of (List.mem_of_getElem? (i := 11) (by decide +kernel)) rfl
theorem sl_X2_lineAt : Cond.selects RX2 yX2_lineAt yX2_lineAt ∈ WW := WW_of (List.mem_of_getElem? (i := 12) (by decide +kernel)) rfl
theorem sl_X2_refuseWithoutProof : Cond.selects RX2 yX2_refuseWithoutProof yX2_refuseWithoutProof ∈ WW := WW_of (List.mem_of_getElem? (i := 13) (by decide +kernel)) rfl
theorem sl_X2_refuseSetOutside : Cond.selects RX2 yX2_refuseSetOutside yX2_refuseSetOutside ∈ WW := WW_of (List.mem_of_getElem? (i := 14) (by decide +kernel)) rfl
theorem sl_X3_isLiteral : Cond.selects RX3 yX3_isLiteral yX3_isLiteral ∈ WW := WW_of (List.mem_of_getElem? (i := 15) (by decide +kernel)) rfl
theorem sl_X3_areInputs : Cond.selects RX3 yX3_areInputs yX3_areInputs ∈ WW := WW_of (List.mem_of_getElem? (i := 16) (by decide +kernel)) rfl
theorem sl_X3_isSet : Cond.selects RX3 yX3_isSet yX3_isSet ∈ WW := WW_of (List.mem_of_getElem? (i := 17) (by decide +kernel)) rfl
theorem sl_X3_settled : Cond.selects RX3 yX3_settled yX3_settled ∈ WW := WW_of (List.mem_of_getElem? (i := 18) (by decide +kernel)) rfl
theorem sl_X3_made : Cond.selects RX3 yX3_made yX3_made ∈ WW := WW_of (List.mem_of_getElem? (i := 19) (by decide +kernel)) rfl
theorem sl_X3_claimed : Cond.selects RX3 yX3_claimed yX3_claimed ∈ WW := WW_of (List.mem_of_getElem? (i := 20) (by decide +kernel)) rfl
theorem sl_X3_derived : Cond.selects RX3 yX3_derived yX3_derived ∈ WW := WW_of (List.mem_of_getElem? (i := 21) (by decide +kernel)) rfl
theorem sl_X3_gates : Cond.selects RX3 yX3_gates yX3_gates ∈ WW := WW_of (List.mem_of_getElem? (i := 22) (by decide +kernel)) rfl
theorem sl_X3_gateWire : Cond.selects RX3 yX3_gateWire yX3_gateWire ∈ WW := WW_of (List.mem_of_getElem? (i := 23) (by decide +kernel)) rfl
theorem sl_X3_eliminated : Cond.selects RX3 yX3_eliminated yX3_eliminated ∈ WW := WW_of (List.mem_of_getElem? (i := 24) (by decide +kernel)) rfl
theorem sl_X3_redirected : Cond.selects RX3 yX3_redirected yX3_redirected ∈ WW := WW_of (List.mem_of_getElem? (i := 25) (by decide +kernel)) rfl
theorem sl_X3_coefficients : Cond.selects RX3 yX3_coefficients yX3_coefficients ∈ WW := WW_of (List.mem_of_getElem? (i := 26) (by decide +kernel)) rfl
theorem sl_X3_keep : Cond.selects RX3 yX3_keep yX3_keep ∈ WW := WW_of (List.mem_of_getElem? (i := 27) (by decide +kernel)) rfl
theorem sl_X3_lack : Cond.selects RX3 yX3_lack yX3_lack ∈ WW := WW_of (List.mem_of_getElem? (i := 28) (by decide +kernel)) rfl
theorem sl_X3_find : Cond.selects RX3 yX3_find yX3_find ∈ WW := WW_of (List.mem_of_getElem? (i := 29) (by decide +kernel)) rfl
theorem sl_X3_has : Cond.selects RX3 yX3_has yX3_has ∈ WW := WW_of (List.mem_of_getElem? (i := 30) (by decide +kernel)) rfl
theorem sl_X3_right : Cond.selects RX3 yX3_right yX3_right ∈ WW := WW_of (List.mem_of_getElem? (i := 31) (by decide +kernel)) rfl
theorem sl_X3_values : Cond.selects RX3 yX3_values yX3_values ∈ WW := WW_of (List.mem_of_getElem? (i := 32) (by decide +kernel)) rfl
theorem uw_0 : ∀ w ∈ u_ws RX0 TX0 6, w ∈ WW := fun w h => WW_of ((by decide +kernel : ∀ w ∈ u_ws RX0 TX0 6, w ∈ lw_tbl) w h) ((by decide +kernel : ∀ w ∈ u_ws RX0 TX0 6, goodWord w = true) w h)
theorem uw_1 : ∀ w ∈ u_ws RX1 TX1 2, w ∈ WW := fun w h => WW_of ((by decide +kernel : ∀ w ∈ u_ws RX1 TX1 2, w ∈ lw_tbl) w h) ((by decide +kernel : ∀ w ∈ u_ws RX1 TX1 2, goodWord w = true) w h)
theorem uw_2 : ∀ w ∈ u_ws RX2 TX2 8, w ∈ WW := fun w h => WW_of ((by decide +kernel : ∀ w ∈ u_ws RX2 TX2 8, w ∈ lw_tbl) w h) ((by decide +kernel : ∀ w ∈ u_ws RX2 TX2 8, goodWord w = true) w h)
theorem uw_3 : ∀ w ∈ u_ws RX3 TX3 14, w ∈ WW := fun w h => WW_of ((by decide +kernel : ∀ w ∈ u_ws RX3 TX3 14, w ∈ lw_tbl) w h) ((by decide +kernel : ∀ w ∈ u_ws RX3 TX3 14, goodWord w = true) w h)
end
section
/-! THE LAYER: a world is a list L of keys; the cell of key k lies at address ad k and holds hp k, whose references are keys; locals and stack hold keys too.
G is W over all heaps that hold the world; runs of plain instructions go in one row (g_run), by computing. -/
abbrev KE : Type := (Nat × vp_A) ⊕ (Nat × List Value)
def em (ad : Nat → Nat) (v : Value) : Value := match v with
  | .ref k => .ref (ad k)
  | w => w
def emQ (ad : Nat → Nat) (x : vp_A) : vp_A := match x with
  | (n, .inr (.inr (.inr (.inr f)))) => (n, .inr (.inr (.inr (.inr (fun j => (f j).map ad)))))
  | y => y
def emE (dA ad : Nat → Nat) (x : KE) : va_E := match x with
  | .inl (t, a) => .inl (dA t, emQ ad a)
  | .inr (ci, fs) => .inr (ci, fs.map (em ad))
abbrev kO (ci : Nat) (fs : List Value) : KE := .inr (ci, fs)
abbrev kI (n : Nat) (f : Nat → Int32) : KE := .inl (0, n, .inl f)
abbrev kJ (n : Nat) (f : Nat → Int64) : KE := .inl (1, n, .inr (.inl f))
abbrev kQ (t n : Nat) (f : Nat → Option Nat) : KE := .inl (t, n, .inr (.inr (.inr (.inr f))))
def kw (dA ad : Nat → Nat) (L : List Nat) (hp : Nat → KE) : va_W := L.map fun k => (ad k, emE dA ad (hp k))
def tysW (dA : Nat → Nat) : List (ClassId × FieldType) := [(dA 0, .int), (dA 1, .long), (dA 2, .object RX0), (dA 3, .object RX1)]
theorem em_cat (ad : Nat → Nat) (v : Value) : (em ad v).category = v.category := by cases v <;> rfl
theorem kw_get {dA ad : Nat → Nat} {L : List Nat} {hp : Nat → KE} {k : Nat} (h : k ∈ L) : ∃ i : Nat, (kw dA ad L hp)[i]? = some (ad k, emE dA ad (hp k)) := by
  obtain ⟨i, hi⟩ := List.getElem?_of_mem h
  exact ⟨i, by simp [kw, hi]⟩
theorem kw_at {dA ad : Nat → Nat} {L : List Nat} {hp : Nat → KE} {i : Nat} {x : Nat × va_E} (h : (kw dA ad L hp)[i]? = some x) : ∃ k, L[i]? = some k ∧ x = (ad k, emE dA ad (hp k)) := by
  simp only [kw, List.getElem?_map] at h
  cases hl : L[i]? with
  | none => rw [hl] at h; cases h
  | some k => rw [hl] at h; cases h; exact ⟨k, rfl, rfl⟩
def kinj (ad : Nat → Nat) (L : List Nat) : Prop := ∀ i ∈ L, ∀ j ∈ L, ad i = ad j → i = j
theorem nodup_at {L : List Nat} (hn : L.Nodup) {i j k : Nat} (hi : L[i]? = some k) (hj : L[j]? = some k) : i = j := by
  have h1 := (List.getElem?_eq_some_iff.mp hi)
  have h2 := (List.getElem?_eq_some_iff.mp hj)
  obtain ⟨a1, b1⟩ := h1
  obtain ⟨a2, b2⟩ := h2
  exact (List.getElem_inj hn).mp (b1.trans b2.symm)
theorem kw_set {dA ad : Nat → Nat} {L : List Nat} {hp : Nat → KE} {k i : Nat} {x : va_E} (hj : kinj ad L) (hn : L.Nodup) (h : k ∈ L) (hi : (kw dA ad L hp)[i]? = some (ad k, x)) (e : KE) : (kw dA ad L hp).set i (ad k, emE dA ad e) = kw dA ad L (va_up hp k e) := by
  obtain ⟨k1, h1, h2⟩ := kw_at hi
  have hk : k = k1 := hj k h k1 (List.mem_of_getElem? h1) (congrArg Prod.fst h2)
  subst hk
  have hlt : i < (kw dA ad L hp).length := (List.getElem?_eq_some_iff.mp hi).1
  apply List.ext_getElem?
  intro j
  by_cases hji : i = j
  · subst hji
    rw [List.getElem?_set_self hlt]
    simp [kw, h1, va_up_self]
  · rw [List.getElem?_set_ne hji]
    simp only [kw, List.getElem?_map]
    cases hl : L[j]? with
    | none => rfl
    | some k2 =>
      have hne : k2 ≠ k := fun z => hji (nodup_at hn (by rw [h1]) (by rw [hl, z]))
      show some (ad k2, emE dA ad (hp k2)) = some (ad k2, emE dA ad (va_up hp k e k2))
      rw [va_up_ne _ _ hne]
theorem kw_D {dA ad : Nat → Nat} {L : List Nat} {hp : Nat → KE} {A : Nat → Prop} (hj : kinj ad L) (hn : L.Nodup) (hA : ∀ k ∈ L, A (ad k)) : va_D A (kw dA ad L hp) := by
  refine ⟨fun i j p q hi hjj hpq => ?_, fun k q hk => ?_⟩
  · obtain ⟨k1, h1, rfl⟩ := kw_at hi
    obtain ⟨k2, h2, rfl⟩ := kw_at hjj
    have hk : k1 = k2 := hj _ (List.mem_of_getElem? h1) _ (List.mem_of_getElem? h2) hpq
    subst hk
    exact nodup_at hn h1 h2
  · obtain ⟨k1, h1, rfl⟩ := kw_at hk
    exact hA _ (List.mem_of_getElem? h1)
/-! a method's instructions as a table: place, instruction, next place -/
def tbOK (cc : ByteArray) (tb : List (Nat × Instr × Nat)) : Bool := tb.all fun q => match decode cc q.1 with
  | .ok (i, n) => decide (i = q.2.1 ∧ q.1 + n = q.2.2)
  | _ => false
def fd (tb : List (Nat × Instr × Nat)) (pc : Nat) : Option (Instr × Nat) := match tb with
  | [] => none
  | (a, i, n) :: r => match Nat.beq a pc with
    | true => some (i, n)
    | false => fd r pc
theorem fd_ok {cc : ByteArray} : ∀ {tb : List (Nat × Instr × Nat)} {pc nx : Nat} {i : Instr}, tbOK cc tb = true → fd tb pc = some (i, nx) → ∃ n, decode cc pc = .ok (i, n) ∧ pc + n = nx
  | [], pc, nx, i, _, h => by simp [fd] at h
  | (a, j, n) :: r, pc, nx, i, ht, h => by
    simp only [tbOK, List.all_cons, Bool.and_eq_true] at ht
    by_cases hb : Nat.beq a pc = true
    · have hap : a = pc := Nat.eq_of_beq_eq_true hb
      simp only [fd, hb] at h
      cases h
      have h1 := ht.1
      subst hap
      cases hd : decode cc a with
      | error z => rw [hd] at h1; cases h1
      | ok z =>
        obtain ⟨j2, n2⟩ := z
        rw [hd] at h1
        have h2 := of_decide_eq_true h1
        obtain ⟨h3, h4⟩ := h2
        subst h3
        exact ⟨n2, rfl, h4⟩
    · have hb2 : Nat.beq a pc = false := by cases hx : Nat.beq a pc with
        | true => exact absurd hx hb
        | false => rfl
      simp only [fd, hb2] at h
      exact fd_ok (tb := r) ht.2 h
/-- the context of a method's body -/
def CX (p : Program) (s : State) (m : MethodId) (args : Array Value) (meth : Method) (c : Code) (own : String) (cc : ByteArray) (nL : Nat) (ret : Option FieldType) (tb : List (Nat × Instr × Nat)) (D : va_G) (dA ad : Nat → Nat) (L : List Nat) (A : Nat → Prop) : Prop :=
  CallFix p m c cc nL s args WW own ∧ meth.sig.returnType = ret ∧ meth.locks = false ∧ tbOK cc tb = true ∧ va_K D kcl (tysW dA) s ∧ kinj ad L ∧ L.Nodup ∧ (∀ k ∈ L, A (ad k)) ∧ (∀ q, s.heap.size ≤ q → A q)
abbrev emL (ad : Nat → Nat) (lv : List (Nat × Value)) : List (Nat × Value) := lv.map fun q => (q.1, em ad q.2)
def G (p : Program) (l : Launch) (e : Env) (R : Room) (s : State) (m : MethodId) (args : Array Value) (below : List Frame) (meth : Method) (c : Code) (D : va_G) (dA ad : Nat → Nat) (L : List Nat) (A : Nat → Prop) (nL cells slots : Nat) (Q : State → Prop) (hp : Nat → KE) (pc : Nat) (lv : List (Nat × Value)) (st : List Value) : Prop :=
  ∀ (H : Heap) (locs : List Loc) (ls : Array Slot), va_P D kcl (kw dA ad L hp) H → va_S A s.heap H locs → lv_has ls nL (emL ad lv) → W p l e R s m args below meth c H locs cells slots Q (F0 m pc ls (st.map (em ad)))
def lk (lv : List (Nat × Value)) (i : Nat) : Option Value := match lv with
  | [] => none
  | (j, v) :: r => match Nat.beq j i with
    | true => some v
    | false => lk r i
theorem lk_at {ad : Nat → Nat} {ls : Array Slot} {nL i : Nat} {v : Value} : ∀ {lv : List (Nat × Value)}, lv_has ls nL (emL ad lv) → lk lv i = some v → ls[i]? = some (.val (em ad v))
  | [], _, h => by simp [lk] at h
  | (j, w) :: r, hl, h => by
    by_cases hb : Nat.beq j i = true
    · simp only [lk, hb] at h
      have hv : w = v := Option.some.inj h
      have hji : j = i := Nat.eq_of_beq_eq_true hb
      subst hji
      subst hv
      exact hl.2.2 (j, em ad w) List.mem_cons_self
    · have hb2 : Nat.beq j i = false := by cases hx : Nat.beq j i with
        | true => exact absurd hx hb
        | false => rfl
      simp only [lk, hb2] at h
      exact lk_at (lv := r) ⟨hl.1, hl.2.1, fun q hq => hl.2.2 q (List.mem_cons_of_mem _ hq)⟩ h
def sv1 (lv : List (Nat × Value)) (i : Nat) (v : Value) : List (Nat × Value) := (i, v) :: lv.filter (fun q => !(Nat.beq q.1 i) && !(Nat.beq (q.1 + 1) i && Nat.beq q.2.category 2))
def sv2 (lv : List (Nat × Value)) (i : Nat) (v : Value) : List (Nat × Value) := (i, v) :: lv.filter (fun q => !(Nat.beq q.1 i) && (!(Nat.beq q.1 (i + 1)) && !(Nat.beq (q.1 + 1) i && Nat.beq q.2.category 2)))
theorem beq_nat (a b : Nat) : (a == b) = Nat.beq a b := by rw [Bool.eq_iff_iff, Nat.beq_eq, beq_iff_eq]
theorem em_sv1 (ad : Nat → Nat) (lv : List (Nat × Value)) (i : Nat) (v : Value) : (i, em ad v) :: (emL ad lv).filter (fun q => !(q.1 == i) && !(q.1 + 1 == i && q.2.category == 2)) = emL ad (sv1 lv i v) := by
  simp only [emL, sv1, List.map_cons, List.filter_map]
  congr 1
  congr 1
  apply List.filter_congr
  intro q _
  simp only [Function.comp, em_cat, beq_nat]
theorem em_sv2 (ad : Nat → Nat) (lv : List (Nat × Value)) (i : Nat) (v : Value) : (i, em ad v) :: (emL ad lv).filter (fun q => !(q.1 == i) && (!(q.1 == i + 1) && !(q.1 + 1 == i && q.2.category == 2))) = emL ad (sv2 lv i v) := by
  simp only [emL, sv2, List.map_cons, List.filter_map]
  congr 1
  congr 1
  apply List.filter_congr
  intro q _
  simp only [Function.comp, em_cat, beq_nat]
/-! one plain instruction -/
abbrev kS : Type := Nat × List (Nat × Value) × List Value
def cI (n : Int) : Int32 := match n with
  | .ofNat k => nI k
  | .negSucc k => Int32.ofInt (.negSucc k)
theorem cI_eq (n : Int) : Int32.ofInt n = cI n := by
  cases n with
  | ofNat k =>
    show Int32.ofInt ((k : Nat) : Int) = Int32.ofNat k
    first | exact Int32.ofInt_eq_ofNat | exact Int32.ofInt_natCast k | rfl | (simp [Int32.ofInt, Int32.ofNat]; done) | (apply Int32.toBitVec_inj.mp; simp; done)
  | negSucc k => rfl
def ldI (lv : List (Nat × Value)) (st : List Value) (nx i : Nat) : Option kS := match lk lv i with
  | some (.int x) => some (nx, lv, .int x :: st)
  | _ => none
def ldJ (lv : List (Nat × Value)) (st : List Value) (nx i : Nat) : Option kS := match lk lv i with
  | some (.long x) => some (nx, lv, .long x :: st)
  | _ => none
def ldA (lv : List (Nat × Value)) (st : List Value) (nx i : Nat) : Option kS := match lk lv i with
  | some (.ref x) => some (nx, lv, .ref x :: st)
  | _ => none
def stI (nL : Nat) (lv : List (Nat × Value)) (st : List Value) (nx i : Nat) : Option kS := match st with
  | .int x :: r => match Nat.ble (i + 1) nL with
    | true => some (nx, sv1 lv i (.int x), r)
    | false => none
  | _ => none
def stJ (nL : Nat) (lv : List (Nat × Value)) (st : List Value) (nx i : Nat) : Option kS := match st with
  | .long x :: r => match Nat.ble (i + 2) nL with
    | true => some (nx, sv2 lv i (.long x), r)
    | false => none
  | _ => none
def stA (nL : Nat) (lv : List (Nat × Value)) (st : List Value) (nx i : Nat) : Option kS := match st with
  | .ref x :: r => match Nat.ble (i + 1) nL with
    | true => some (nx, sv1 lv i (.ref x), r)
    | false => none
  | _ => none
def b2I (f : Int32 → Int32 → Int32) (lv : List (Nat × Value)) (st : List Value) (nx : Nat) : Option kS := match st with
  | .int y :: .int x :: r => some (nx, lv, .int (f x y) :: r)
  | _ => none
def b2J (f : Int64 → Int64 → Int64) (lv : List (Nat × Value)) (st : List Value) (nx : Nat) : Option kS := match st with
  | .long y :: .long x :: r => some (nx, lv, .long (f x y) :: r)
  | _ => none
def stC (lv : List (Nat × Value)) (st : List Value) (nx : Nat) : Option kS := match st with
  | .long y :: .long x :: r => some (nx, lv, .int (lg_cmp x y) :: r)
  | _ => none
def stL (lv : List (Nat × Value)) (st : List Value) (nx : Nat) : Option kS := match st with
  | .int x :: r => some (nx, lv, .long x.toInt64 :: r)
  | _ => none
def stD (lv : List (Nat × Value)) (st : List Value) (nx : Nat) : Option kS := match st with
  | .int x :: r => some (nx, lv, .int x :: .int x :: r)
  | .ref x :: r => some (nx, lv, .ref x :: .ref x :: r)
  | _ => none
def stD2 (lv : List (Nat × Value)) (st : List Value) (nx : Nat) : Option kS := match st with
  | .int x :: .ref y :: r => some (nx, lv, .int x :: .ref y :: .int x :: .ref y :: r)
  | _ => none
def stP (lv : List (Nat × Value)) (st : List Value) (nx : Nat) : Option kS := match st with
  | .int _ :: r => some (nx, lv, r)
  | .ref _ :: r => some (nx, lv, r)
  | _ => none
def stP2 (lv : List (Nat × Value)) (st : List Value) (nx : Nat) : Option kS := match st with
  | .long _ :: r => some (nx, lv, r)
  | _ => none
def stN (nL : Nat) (lv : List (Nat × Value)) (st : List Value) (nx i : Nat) (n : Int) : Option kS := match lk lv i with
  | some (.int x) => match Nat.ble (i + 1) nL with
    | true => some (nx, sv1 lv i (.int (x + cI n)), st)
    | false => none
  | _ => none
def stG (pc : Nat) (off : Int) (lv : List (Nat × Value)) (st : List Value) : Option kS := match (pc : Int) + off with
  | .ofNat t => some (t, lv, st)
  | .negSucc _ => none
def st1 (nL : Nat) (i : Instr) (pc nx : Nat) (lv : List (Nat × Value)) (st : List Value) : Option kS := match i with
  | .iconst n => some (nx, lv, .int (cI n) :: st)
  | .bipush n => some (nx, lv, .int ((Int8.ofInt n).toInt32) :: st)
  | .sipush n => some (nx, lv, .int ((Int16.ofInt n).toInt32) :: st)
  | .lconst n => some (nx, lv, .long (Int64.ofNat (n : Nat)) :: st)
  | .iload_n k => ldI lv st nx k
  | .iload k => ldI lv st nx k
  | .lload_n k => ldJ lv st nx k
  | .lload k => ldJ lv st nx k
  | .aload_n k => ldA lv st nx k
  | .aload k => ldA lv st nx k
  | .istore_n k => stI nL lv st nx k
  | .istore k => stI nL lv st nx k
  | .lstore_n k => stJ nL lv st nx k
  | .lstore k => stJ nL lv st nx k
  | .astore_n k => stA nL lv st nx k
  | .astore k => stA nL lv st nx k
  | .iinc k n => stN nL lv st nx k n
  | .iadd => b2I (fun x y => x + y) lv st nx
  | .isub => b2I (fun x y => x - y) lv st nx
  | .imul => b2I (fun x y => x * y) lv st nx
  | .iand => b2I (fun x y => x &&& y) lv st nx
  | .ior => b2I (fun x y => x ||| y) lv st nx
  | .ixor => b2I (fun x y => x ^^^ y) lv st nx
  | .ishl => b2I (fun x y => x <<< (y &&& 31)) lv st nx
  | .ishr => b2I (fun x y => x >>> (y &&& 31)) lv st nx
  | .iushr => b2I (fun x y => (x.toUInt32 >>> (y.toUInt32 &&& Int32.toUInt32 31)).toInt32) lv st nx
  | .ladd => b2J (fun x y => x + y) lv st nx
  | .lsub => b2J (fun x y => x - y) lv st nx
  | .lmul => b2J (fun x y => x * y) lv st nx
  | .lcmp => stC lv st nx
  | .i2l => stL lv st nx
  | .dup => stD lv st nx
  | .dup2 => stD2 lv st nx
  | .pop => stP lv st nx
  | .pop2 => stP2 lv st nx
  | .goto off => stG pc off lv st
  | _ => none
end
