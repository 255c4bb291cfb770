section
-- ===== PART A: goes FIRST, ahead of the names: the tables' words, and 'selects' of the private methods out of them =====
/-- a private method of a class that the tables say can be made, by its rows of tables_1 -/
def lw_okq (q : MethodName × Nat) : Prop := (q.1.cls ≠ "java/lang/invoke/MethodHandle" ∧ q.1.cls ≠ "java/lang/invoke/VarHandle") ∧ Cond.instantiable q.1.cls q.2 ∈ tables_1 ∧ Cond.privateMethod q.1 ∈ tables_1 ∧ Cond.instanceMethod q.1 ∈ tables_1
theorem lw_p0 : lw_okq (⟨"GatePolynomials", "dropProof", "()V"⟩, 8) := ⟨⟨by decide +kernel, by decide +kernel⟩, List.mem_of_getElem? (i := 19) (by decide +kernel), List.mem_of_getElem? (i := 113) (by decide +kernel), List.mem_of_getElem? (i := 114) (by decide +kernel)⟩
theorem lw_p1 : lw_okq (⟨"GatePolynomials", "refuseTenthWire", "()V"⟩, 8) := ⟨⟨by decide +kernel, by decide +kernel⟩, List.mem_of_getElem? (i := 19) (by decide +kernel), List.mem_of_getElem? (i := 125) (by decide +kernel), List.mem_of_getElem? (i := 126) (by decide +kernel)⟩
theorem lw_p2 : lw_okq (⟨"java/lang/Throwable", "fillInStackTrace", "(I)Ljava/lang/Throwable;"⟩, 6) := ⟨⟨by decide +kernel, by decide +kernel⟩, List.mem_of_getElem? (i := 170) (by decide +kernel), List.mem_of_getElem? (i := 168) (by decide +kernel), List.mem_of_getElem? (i := 169) (by decide +kernel)⟩
theorem lw_p3 : lw_okq (⟨"GatePolynomials", "countNewWire", "()I"⟩, 8) := ⟨⟨by decide +kernel, by decide +kernel⟩, List.mem_of_getElem? (i := 19) (by decide +kernel), List.mem_of_getElem? (i := 203) (by decide +kernel), List.mem_of_getElem? (i := 204) (by decide +kernel)⟩
theorem lw_p4 : lw_okq (⟨"GatePolynomials", "isLiteral", "(I)Z"⟩, 8) := ⟨⟨by decide +kernel, by decide +kernel⟩, List.mem_of_getElem? (i := 19) (by decide +kernel), List.mem_of_getElem? (i := 215) (by decide +kernel), List.mem_of_getElem? (i := 216) (by decide +kernel)⟩
theorem lw_p5 : lw_okq (⟨"GatePolynomials$Gate", "setTermToValue", "(IIII)V"⟩, 6) := ⟨⟨by decide +kernel, by decide +kernel⟩, List.mem_of_getElem? (i := 43) (by decide +kernel), List.mem_of_getElem? (i := 239) (by decide +kernel), List.mem_of_getElem? (i := 240) (by decide +kernel)⟩
theorem lw_p6 : lw_okq (⟨"GatePolynomials$Gate", "outcome", "(III)I"⟩, 6) := ⟨⟨by decide +kernel, by decide +kernel⟩, List.mem_of_getElem? (i := 43) (by decide +kernel), List.mem_of_getElem? (i := 250) (by decide +kernel), List.mem_of_getElem? (i := 251) (by decide +kernel)⟩
theorem lw_p7 : lw_okq (⟨"GatePolynomials$Gate", "turnValuesToNumbers", "(I)V"⟩, 6) := ⟨⟨by decide +kernel, by decide +kernel⟩, List.mem_of_getElem? (i := 43) (by decide +kernel), List.mem_of_getElem? (i := 254) (by decide +kernel), List.mem_of_getElem? (i := 255) (by decide +kernel)⟩
theorem lw_p8 : lw_okq (⟨"GatePolynomials", "isSet", "(I)Z"⟩, 8) := ⟨⟨by decide +kernel, by decide +kernel⟩, List.mem_of_getElem? (i := 19) (by decide +kernel), List.mem_of_getElem? (i := 265) (by decide +kernel), List.mem_of_getElem? (i := 266) (by decide +kernel)⟩
theorem lw_p9 : lw_okq (⟨"GatePolynomials", "refuseOtherThanInputs", "(I)V"⟩, 8) := ⟨⟨by decide +kernel, by decide +kernel⟩, List.mem_of_getElem? (i := 19) (by decide +kernel), List.mem_of_getElem? (i := 282) (by decide +kernel), List.mem_of_getElem? (i := 283) (by decide +kernel)⟩
theorem lw_p10 : lw_okq (⟨"GatePolynomials", "wiresThatAreOne", "(I)I"⟩, 8) := ⟨⟨by decide +kernel, by decide +kernel⟩, List.mem_of_getElem? (i := 19) (by decide +kernel), List.mem_of_getElem? (i := 287) (by decide +kernel), List.mem_of_getElem? (i := 288) (by decide +kernel)⟩
theorem lw_p11 : lw_okq (⟨"GatePolynomials", "isGate", "(I)Z"⟩, 8) := ⟨⟨by decide +kernel, by decide +kernel⟩, List.mem_of_getElem? (i := 19) (by decide +kernel), List.mem_of_getElem? (i := 291) (by decide +kernel), List.mem_of_getElem? (i := 292) (by decide +kernel)⟩
theorem lw_p12 : lw_okq (⟨"GatePolynomials", "lineAt", "(I)LGatePolynomials$Polynomial;"⟩, 8) := ⟨⟨by decide +kernel, by decide +kernel⟩, List.mem_of_getElem? (i := 19) (by decide +kernel), List.mem_of_getElem? (i := 390) (by decide +kernel), List.mem_of_getElem? (i := 391) (by decide +kernel)⟩
theorem lw_p13 : lw_okq (⟨"GatePolynomials", "refuseWithoutProof", "()V"⟩, 8) := ⟨⟨by decide +kernel, by decide +kernel⟩, List.mem_of_getElem? (i := 19) (by decide +kernel), List.mem_of_getElem? (i := 394) (by decide +kernel), List.mem_of_getElem? (i := 395) (by decide +kernel)⟩
theorem lw_p14 : lw_okq (⟨"GatePolynomials", "refuseSetOutside", "(I)V"⟩, 8) := ⟨⟨by decide +kernel, by decide +kernel⟩, List.mem_of_getElem? (i := 19) (by decide +kernel), List.mem_of_getElem? (i := 431) (by decide +kernel), List.mem_of_getElem? (i := 432) (by decide +kernel)⟩
theorem lw_p15 : lw_okq (⟨"GatePolynomialsModel", "isLiteral", "(I)Z"⟩, 14) := ⟨⟨by decide +kernel, by decide +kernel⟩, List.mem_of_getElem? (i := 492) (by decide +kernel), List.mem_of_getElem? (i := 556) (by decide +kernel), List.mem_of_getElem? (i := 557) (by decide +kernel)⟩
def lw_privs_1 : List (MethodName × Nat) := [(⟨"GatePolynomials", "dropProof", "()V"⟩, 8), (⟨"GatePolynomials", "refuseTenthWire", "()V"⟩, 8), (⟨"java/lang/Throwable", "fillInStackTrace", "(I)Ljava/lang/Throwable;"⟩, 6), (⟨"GatePolynomials", "countNewWire", "()I"⟩, 8), (⟨"GatePolynomials", "isLiteral", "(I)Z"⟩, 8), (⟨"GatePolynomials$Gate", "setTermToValue", "(IIII)V"⟩, 6), (⟨"GatePolynomials$Gate", "outcome", "(III)I"⟩, 6), (⟨"GatePolynomials$Gate", "turnValuesToNumbers", "(I)V"⟩, 6), (⟨"GatePolynomials", "isSet", "(I)Z"⟩, 8), (⟨"GatePolynomials", "refuseOtherThanInputs", "(I)V"⟩, 8), (⟨"GatePolynomials", "wiresThatAreOne", "(I)I"⟩, 8), (⟨"GatePolynomials", "isGate", "(I)Z"⟩, 8), (⟨"GatePolynomials", "lineAt", "(I)LGatePolynomials$Polynomial;"⟩, 8), (⟨"GatePolynomials", "refuseWithoutProof", "()V"⟩, 8), (⟨"GatePolynomials", "refuseSetOutside", "(I)V"⟩, 8), (⟨"GatePolynomialsModel", "isLiteral", "(I)Z"⟩, 14)]
theorem lw_r1 : ∀ q ∈ lw_privs_1, lw_okq q := List.forall_mem_cons.mpr ⟨lw_p0, List.forall_mem_cons.mpr ⟨lw_p1, List.forall_mem_cons.mpr ⟨lw_p2, List.forall_mem_cons.mpr ⟨lw_p3, List.forall_mem_cons.mpr ⟨lw_p4, List.forall_mem_cons.mpr ⟨lw_p5, List.forall_mem_cons.mpr ⟨lw_p6, List.forall_mem_cons.mpr ⟨lw_p7, List.forall_mem_cons.mpr ⟨lw_p8, List.forall_mem_cons.mpr ⟨lw_p9, List.forall_mem_cons.mpr ⟨lw_p10, List.forall_mem_cons.mpr ⟨lw_p11, List.forall_mem_cons.mpr ⟨lw_p12, List.forall_mem_cons.mpr ⟨lw_p13, List.forall_mem_cons.mpr ⟨lw_p14, List.forall_mem_cons.mpr ⟨lw_p15, fun _ h => absurd h List.not_mem_nil⟩⟩⟩⟩⟩⟩⟩⟩⟩⟩⟩⟩⟩⟩⟩⟩
theorem lw_p16 : lw_okq (⟨"GatePolynomialsModel", "areInputs", "(I)Z"⟩, 14) := ⟨⟨by decide +kernel, by decide +kernel⟩, List.mem_of_getElem? (i := 492) (by decide +kernel), List.mem_of_getElem? (i := 568) (by decide +kernel), List.mem_of_getElem? (i := 569) (by decide +kernel)⟩
theorem lw_p17 : lw_okq (⟨"GatePolynomialsModel", "isSet", "(I)Z"⟩, 14) := ⟨⟨by decide +kernel, by decide +kernel⟩, List.mem_of_getElem? (i := 492) (by decide +kernel), List.mem_of_getElem? (i := 572) (by decide +kernel), List.mem_of_getElem? (i := 573) (by decide +kernel)⟩
theorem lw_p18 : lw_okq (⟨"GatePolynomialsModel", "settled", "(I)I"⟩, 14) := ⟨⟨by decide +kernel, by decide +kernel⟩, List.mem_of_getElem? (i := 492) (by decide +kernel), List.mem_of_getElem? (i := 576) (by decide +kernel), List.mem_of_getElem? (i := 577) (by decide +kernel)⟩
theorem lw_p19 : lw_okq (⟨"GatePolynomialsModel", "made", "(II)I"⟩, 14) := ⟨⟨by decide +kernel, by decide +kernel⟩, List.mem_of_getElem? (i := 492) (by decide +kernel), List.mem_of_getElem? (i := 580) (by decide +kernel), List.mem_of_getElem? (i := 581) (by decide +kernel)⟩
theorem lw_p20 : lw_okq (⟨"GatePolynomialsModel", "claimed", "(I)J"⟩, 14) := ⟨⟨by decide +kernel, by decide +kernel⟩, List.mem_of_getElem? (i := 492) (by decide +kernel), List.mem_of_getElem? (i := 591) (by decide +kernel), List.mem_of_getElem? (i := 592) (by decide +kernel)⟩
theorem lw_p21 : lw_okq (⟨"GatePolynomialsModel", "derived", "(Z)Z"⟩, 14) := ⟨⟨by decide +kernel, by decide +kernel⟩, List.mem_of_getElem? (i := 492) (by decide +kernel), List.mem_of_getElem? (i := 603) (by decide +kernel), List.mem_of_getElem? (i := 604) (by decide +kernel)⟩
theorem lw_p22 : lw_okq (⟨"GatePolynomialsModel", "gates", "()I"⟩, 14) := ⟨⟨by decide +kernel, by decide +kernel⟩, List.mem_of_getElem? (i := 492) (by decide +kernel), List.mem_of_getElem? (i := 607) (by decide +kernel), List.mem_of_getElem? (i := 608) (by decide +kernel)⟩
theorem lw_p23 : lw_okq (⟨"GatePolynomialsModel", "gateWire", "(I)I"⟩, 14) := ⟨⟨by decide +kernel, by decide +kernel⟩, List.mem_of_getElem? (i := 492) (by decide +kernel), List.mem_of_getElem? (i := 611) (by decide +kernel), List.mem_of_getElem? (i := 612) (by decide +kernel)⟩
theorem lw_p24 : lw_okq (⟨"GatePolynomialsModel", "eliminated", "(I)I"⟩, 14) := ⟨⟨by decide +kernel, by decide +kernel⟩, List.mem_of_getElem? (i := 492) (by decide +kernel), List.mem_of_getElem? (i := 615) (by decide +kernel), List.mem_of_getElem? (i := 616) (by decide +kernel)⟩
theorem lw_p25 : lw_okq (⟨"GatePolynomialsModel", "redirected", "(II)I"⟩, 14) := ⟨⟨by decide +kernel, by decide +kernel⟩, List.mem_of_getElem? (i := 492) (by decide +kernel), List.mem_of_getElem? (i := 619) (by decide +kernel), List.mem_of_getElem? (i := 620) (by decide +kernel)⟩
theorem lw_p26 : lw_okq (⟨"GatePolynomialsModel", "coefficients", "()I"⟩, 14) := ⟨⟨by decide +kernel, by decide +kernel⟩, List.mem_of_getElem? (i := 492) (by decide +kernel), List.mem_of_getElem? (i := 623) (by decide +kernel), List.mem_of_getElem? (i := 624) (by decide +kernel)⟩
theorem lw_p27 : lw_okq (⟨"GatePolynomialsModel", "keep", "(I)V"⟩, 14) := ⟨⟨by decide +kernel, by decide +kernel⟩, List.mem_of_getElem? (i := 492) (by decide +kernel), List.mem_of_getElem? (i := 627) (by decide +kernel), List.mem_of_getElem? (i := 628) (by decide +kernel)⟩
theorem lw_p28 : lw_okq (⟨"GatePolynomialsModel", "lack", "(I)I"⟩, 14) := ⟨⟨by decide +kernel, by decide +kernel⟩, List.mem_of_getElem? (i := 492) (by decide +kernel), List.mem_of_getElem? (i := 639) (by decide +kernel), List.mem_of_getElem? (i := 640) (by decide +kernel)⟩
theorem lw_p29 : lw_okq (⟨"GatePolynomialsModel", "find", "(II)I"⟩, 14) := ⟨⟨by decide +kernel, by decide +kernel⟩, List.mem_of_getElem? (i := 492) (by decide +kernel), List.mem_of_getElem? (i := 647) (by decide +kernel), List.mem_of_getElem? (i := 648) (by decide +kernel)⟩
theorem lw_p30 : lw_okq (⟨"GatePolynomialsModel", "has", "(II)J"⟩, 14) := ⟨⟨by decide +kernel, by decide +kernel⟩, List.mem_of_getElem? (i := 492) (by decide +kernel), List.mem_of_getElem? (i := 655) (by decide +kernel), List.mem_of_getElem? (i := 656) (by decide +kernel)⟩
theorem lw_p31 : lw_okq (⟨"GatePolynomialsModel", "right", "(I)Z"⟩, 14) := ⟨⟨by decide +kernel, by decide +kernel⟩, List.mem_of_getElem? (i := 492) (by decide +kernel), List.mem_of_getElem? (i := 667) (by decide +kernel), List.mem_of_getElem? (i := 668) (by decide +kernel)⟩
def lw_privs_2 : List (MethodName × Nat) := [(⟨"GatePolynomialsModel", "areInputs", "(I)Z"⟩, 14), (⟨"GatePolynomialsModel", "isSet", "(I)Z"⟩, 14), (⟨"GatePolynomialsModel", "settled", "(I)I"⟩, 14), (⟨"GatePolynomialsModel", "made", "(II)I"⟩, 14), (⟨"GatePolynomialsModel", "claimed", "(I)J"⟩, 14), (⟨"GatePolynomialsModel", "derived", "(Z)Z"⟩, 14), (⟨"GatePolynomialsModel", "gates", "()I"⟩, 14), (⟨"GatePolynomialsModel", "gateWire", "(I)I"⟩, 14), (⟨"GatePolynomialsModel", "eliminated", "(I)I"⟩, 14), (⟨"GatePolynomialsModel", "redirected", "(II)I"⟩, 14), (⟨"GatePolynomialsModel", "coefficients", "()I"⟩, 14), (⟨"GatePolynomialsModel", "keep", "(I)V"⟩, 14), (⟨"GatePolynomialsModel", "lack", "(I)I"⟩, 14), (⟨"GatePolynomialsModel", "find", "(II)I"⟩, 14), (⟨"GatePolynomialsModel", "has", "(II)J"⟩, 14), (⟨"GatePolynomialsModel", "right", "(I)Z"⟩, 14)]
theorem lw_r2 : ∀ q ∈ lw_privs_2, lw_okq q := List.forall_mem_cons.mpr ⟨lw_p16, List.forall_mem_cons.mpr ⟨lw_p17, List.forall_mem_cons.mpr ⟨lw_p18, List.forall_mem_cons.mpr ⟨lw_p19, List.forall_mem_cons.mpr ⟨lw_p20, List.forall_mem_cons.mpr ⟨lw_p21, List.forall_mem_cons.mpr ⟨lw_p22, List.forall_mem_cons.mpr ⟨lw_p23, List.forall_mem_cons.mpr ⟨lw_p24, List.forall_mem_cons.mpr ⟨lw_p25, List.forall_mem_cons.mpr ⟨lw_p26, List.forall_mem_cons.mpr ⟨lw_p27, List.forall_mem_cons.mpr ⟨lw_p28, List.forall_mem_cons.mpr ⟨lw_p29, List.forall_mem_cons.mpr ⟨lw_p30, List.forall_mem_cons.mpr ⟨lw_p31, fun _ h => absurd h List.not_mem_nil⟩⟩⟩⟩⟩⟩⟩⟩⟩⟩⟩⟩⟩⟩⟩⟩
theorem lw_p32 : lw_okq (⟨"GatePolynomialsModel", "values", "(I)V"⟩, 14) := ⟨⟨by decide +kernel, by decide +kernel⟩, List.mem_of_getElem? (i := 492) (by decide +kernel), List.mem_of_getElem? (i := 671) (by decide +kernel), List.mem_of_getElem? (i := 672) (by decide +kernel)⟩
def lw_privs_3 : List (MethodName × Nat) := [(⟨"GatePolynomialsModel", "values", "(I)V"⟩, 14)]
theorem lw_r3 : ∀ q ∈ lw_privs_3, lw_okq q := List.forall_mem_cons.mpr ⟨lw_p32, fun _ h => absurd h List.not_mem_nil⟩
def lw_privs : List (MethodName × Nat) := lw_privs_1 ++ (lw_privs_2 ++ (lw_privs_3))
def lw_tbl : List Cond := k2_sels lw_privs ++ tables_1
theorem lw_privs_ok : ∀ q ∈ lw_privs, lw_okq q := by
  show ∀ q ∈ lw_privs_1 ++ (lw_privs_2 ++ (lw_privs_3)), lw_okq q
  exact List.forall_mem_append.mpr ⟨lw_r1, List.forall_mem_append.mpr ⟨lw_r2, lw_r3⟩⟩

def RX0 : String := "GatePolynomials$Gate"
def TX0 : u_T := fun k => match k with
  | 0 => ("GatePolynomials$Gate", "kind", "I", false)
  | 1 => ("GatePolynomials$Gate", "a", "I", false)
  | 2 => ("GatePolynomials$Gate", "b", "I", false)
  | 3 => ("GatePolynomials$Gate", "c", "I", false)
  | 4 => ("GatePolynomials$Gate", "termSets", "[I", true)
  | _ => ("GatePolynomials$Gate", "termNumbers", "[J", true)
def tyX0 : Nat → FieldType := fun k => match k with
  | 0 => .int
  | 1 => .int
  | 2 => .int
  | 3 => .int
  | 4 => .array .int
  | _ => .array .long
abbrev wsX00 : List Cond := u_ws RX0 TX0 6
theorem nmX0 : ∀ a, a < 6 → ∀ b, b < 6 → a ≠ b → (TX0 a).2.1 ≠ (TX0 b).2.1 := by decide +kernel
theorem tyX0_ok : ∀ k, k < 6 → parseFieldDescriptor (TX0 k).2.2.1 = some (tyX0 k) := by decide +kernel
abbrev cX0_init : ByteArray := prog_2_method_1_code
def yX0_init : MethodName := ⟨RX0, "<init>", "()V"⟩
abbrev cX0_become : ByteArray := prog_2_method_2_code
def yX0_become : MethodName := ⟨RX0, "become", "(IIII)V"⟩
abbrev cX0_valueWhere : ByteArray := prog_2_method_3_code
def yX0_valueWhere : MethodName := ⟨RX0, "valueWhere", "(I)I"⟩
abbrev cX0_addProduct : ByteArray := prog_2_method_4_code
def yX0_addProduct : MethodName := ⟨RX0, "addProduct", "(LGatePolynomials$Polynomial;IJ)V"⟩
abbrev cX0_setTermToValue : ByteArray := prog_2_method_5_code
def yX0_setTermToValue : MethodName := ⟨RX0, "setTermToValue", "(IIII)V"⟩
abbrev cX0_turnValuesToNumbers : ByteArray := prog_2_method_6_code
def yX0_turnValuesToNumbers : MethodName := ⟨RX0, "turnValuesToNumbers", "(I)V"⟩
abbrev cX0_outcome : ByteArray := prog_2_method_7_code
def yX0_outcome : MethodName := ⟨RX0, "outcome", "(III)I"⟩
abbrev cX0_literalWhere : ByteArray := prog_2_method_8_code
def yX0_literalWhere : MethodName := ⟨RX0, "literalWhere", "(II)I"⟩
abbrev cX0_literalFor : ByteArray := prog_2_method_9_code
def yX0_literalFor : MethodName := ⟨RX0, "literalFor", "(II)I"⟩
abbrev cX0_wireBit : ByteArray := prog_2_method_10_code
def yX0_wireBit : MethodName := ⟨RX0, "wireBit", "(I)I"⟩
def RX1 : String := "GatePolynomials$Polynomial"
def TX1 : u_T := fun k => match k with
  | 0 => ("GatePolynomials$Polynomial", "numbers", "[J", true)
  | _ => ("GatePolynomials$Polynomial", "monomials", "I", false)
def tyX1 : Nat → FieldType := fun k => match k with
  | 0 => .array .long
  | _ => .int
abbrev wsX10 : List Cond := u_ws RX1 TX1 2
theorem nmX1 : ∀ a, a < 2 → ∀ b, b < 2 → a ≠ b → (TX1 a).2.1 ≠ (TX1 b).2.1 := by decide +kernel
theorem tyX1_ok : ∀ k, k < 2 → parseFieldDescriptor (TX1 k).2.2.1 = some (tyX1 k) := by decide +kernel
abbrev cX1_init : ByteArray := prog_3_method_1_code
def yX1_init : MethodName := ⟨RX1, "<init>", "()V"⟩
abbrev cX1_erase : ByteArray := prog_3_method_2_code
def yX1_erase : MethodName := ⟨RX1, "erase", "()V"⟩
abbrev cX1_becomeCopy : ByteArray := prog_3_method_3_code
def yX1_becomeCopy : MethodName := ⟨RX1, "becomeCopy", "(LGatePolynomials$Polynomial;)V"⟩
abbrev cX1_becomeElimination : ByteArray := prog_3_method_4_code
def yX1_becomeElimination : MethodName := ⟨RX1, "becomeElimination", "(LGatePolynomials$Polynomial;ILGatePolynomials$Gate;)V"⟩
abbrev cX1_increase : ByteArray := prog_3_method_5_code
def yX1_increase : MethodName := ⟨RX1, "increase", "(IJ)J"⟩
abbrev cX1_numberOf : ByteArray := prog_3_method_6_code
def yX1_numberOf : MethodName := ⟨RX1, "numberOf", "(I)J"⟩
abbrev cX1_monomialCount : ByteArray := prog_3_method_7_code
def yX1_monomialCount : MethodName := ⟨RX1, "monomialCount", "()I"⟩
abbrev cX1_monomialAt : ByteArray := prog_3_method_8_code
def yX1_monomialAt : MethodName := ⟨RX1, "monomialAt", "(I)I"⟩
abbrev cX1_leastMonomialOfFewestWires : ByteArray := prog_3_method_9_code
def yX1_leastMonomialOfFewestWires : MethodName := ⟨RX1, "leastMonomialOfFewestWires", "()I"⟩
abbrev cX1_valueWhere : ByteArray := prog_3_method_10_code
def yX1_valueWhere : MethodName := ⟨RX1, "valueWhere", "(I)J"⟩
abbrev cX1_isSameAs : ByteArray := prog_3_method_11_code
def yX1_isSameAs : MethodName := ⟨RX1, "isSameAs", "(LGatePolynomials$Polynomial;)Z"⟩
def RX2 : String := "GatePolynomials"
def TX2 : u_T := fun k => match k with
  | 0 => ("GatePolynomials", "gates", "[LGatePolynomials$Gate;", true)
  | 1 => ("GatePolynomials", "wireCount", "I", false)
  | 2 => ("GatePolynomials", "inputWires", "I", false)
  | 3 => ("GatePolynomials", "claim", "LGatePolynomials$Polynomial;", true)
  | 4 => ("GatePolynomials", "additions", "I", false)
  | 5 => ("GatePolynomials", "proof", "[LGatePolynomials$Polynomial;", true)
  | 6 => ("GatePolynomials", "lineCount", "I", false)
  | _ => ("GatePolynomials", "expected", "LGatePolynomials$Polynomial;", true)
def tyX2 : Nat → FieldType := fun k => match k with
  | 0 => .array (.object "GatePolynomials$Gate")
  | 1 => .int
  | 2 => .int
  | 3 => .object "GatePolynomials$Polynomial"
  | 4 => .int
  | 5 => .array (.object "GatePolynomials$Polynomial")
  | 6 => .int
  | _ => .object "GatePolynomials$Polynomial"
abbrev wsX20 : List Cond := u_ws RX2 TX2 8
theorem nmX2 : ∀ a, a < 8 → ∀ b, b < 8 → a ≠ b → (TX2 a).2.1 ≠ (TX2 b).2.1 := by decide +kernel
theorem tyX2_ok : ∀ k, k < 8 → parseFieldDescriptor (TX2 k).2.2.1 = some (tyX2 k) := by decide +kernel
abbrev cX2_init : ByteArray := prog_1_method_1_code
def yX2_init : MethodName := ⟨RX2, "<init>", "()V"⟩
abbrev cX2_input : ByteArray := prog_1_method_2_code
def yX2_input : MethodName := ⟨RX2, "input", "()I"⟩
abbrev cX2_gate : ByteArray := prog_1_method_3_code
def yX2_gate : MethodName := ⟨RX2, "gate", "(IIII)I"⟩
abbrev cX2_wires : ByteArray := prog_1_method_4_code
def yX2_wires : MethodName := ⟨RX2, "wires", "()I"⟩
abbrev cX2_add : ByteArray := prog_1_method_5_code
def yX2_add : MethodName := ⟨RX2, "add", "(II)I"⟩
abbrev cX2_simulate : ByteArray := prog_1_method_6_code
def yX2_simulate : MethodName := ⟨RX2, "simulate", "(I)I"⟩
abbrev cX2_evaluate : ByteArray := prog_1_method_7_code
def yX2_evaluate : MethodName := ⟨RX2, "evaluate", "(I)J"⟩
abbrev cX2_prove : ByteArray := prog_1_method_8_code
def yX2_prove : MethodName := ⟨RX2, "prove", "()I"⟩
abbrev cX2_lines : ByteArray := prog_1_method_9_code
def yX2_lines : MethodName := ⟨RX2, "lines", "()I"⟩
abbrev cX2_size : ByteArray := prog_1_method_10_code
def yX2_size : MethodName := ⟨RX2, "size", "(I)I"⟩
abbrev cX2_monomial : ByteArray := prog_1_method_11_code
def yX2_monomial : MethodName := ⟨RX2, "monomial", "(II)I"⟩
abbrev cX2_coefficient : ByteArray := prog_1_method_12_code
def yX2_coefficient : MethodName := ⟨RX2, "coefficient", "(II)J"⟩
abbrev cX2_spoil : ByteArray := prog_1_method_13_code
def yX2_spoil : MethodName := ⟨RX2, "spoil", "(III)J"⟩
abbrev cX2_check : ByteArray := prog_1_method_14_code
def yX2_check : MethodName := ⟨RX2, "check", "()I"⟩
abbrev cX2_witness : ByteArray := prog_1_method_15_code
def yX2_witness : MethodName := ⟨RX2, "witness", "()I"⟩
abbrev cX2_clear : ByteArray := prog_1_method_16_code
def yX2_clear : MethodName := ⟨RX2, "clear", "()I"⟩
abbrev cX2_countNewWire : ByteArray := prog_1_method_17_code
def yX2_countNewWire : MethodName := ⟨RX2, "countNewWire", "()I"⟩
abbrev cX2_dropProof : ByteArray := prog_1_method_18_code
def yX2_dropProof : MethodName := ⟨RX2, "dropProof", "()V"⟩
abbrev cX2_refuseTenthWire : ByteArray := prog_1_method_19_code
def yX2_refuseTenthWire : MethodName := ⟨RX2, "refuseTenthWire", "()V"⟩
abbrev cX2_refuseOtherThanInputs : ByteArray := prog_1_method_20_code
def yX2_refuseOtherThanInputs : MethodName := ⟨RX2, "refuseOtherThanInputs", "(I)V"⟩
abbrev cX2_refuseWithoutProof : ByteArray := prog_1_method_21_code
def yX2_refuseWithoutProof : MethodName := ⟨RX2, "refuseWithoutProof", "()V"⟩
abbrev cX2_refuseSetOutside : ByteArray := prog_1_method_22_code
def yX2_refuseSetOutside : MethodName := ⟨RX2, "refuseSetOutside", "(I)V"⟩
abbrev cX2_lineAt : ByteArray := prog_1_method_23_code
def yX2_lineAt : MethodName := ⟨RX2, "lineAt", "(I)LGatePolynomials$Polynomial;"⟩
abbrev cX2_isSet : ByteArray := prog_1_method_24_code
def yX2_isSet : MethodName := ⟨RX2, "isSet", "(I)Z"⟩
abbrev cX2_isLiteral : ByteArray := prog_1_method_25_code
def yX2_isLiteral : MethodName := ⟨RX2, "isLiteral", "(I)Z"⟩
abbrev cX2_isGate : ByteArray := prog_1_method_26_code
def yX2_isGate : MethodName := ⟨RX2, "isGate", "(I)Z"⟩
abbrev cX2_wiresThatAreOne : ByteArray := prog_1_method_27_code
def yX2_wiresThatAreOne : MethodName := ⟨RX2, "wiresThatAreOne", "(I)I"⟩
abbrev cX2_bitOf : ByteArray := prog_1_method_28_code
def yX2_bitOf : MethodName := ⟨RX2, "bitOf", "(I)I"⟩
def RX3 : String := "GatePolynomialsModel"
def TX3 : u_T := fun k => match k with
  | 0 => ("GatePolynomialsModel", "thrown", "I", false)
  | 1 => ("GatePolynomialsModel", "wires", "I", false)
  | 2 => ("GatePolynomialsModel", "kind", "[I", false)
  | 3 => ("GatePolynomialsModel", "first", "[I", false)
  | 4 => ("GatePolynomialsModel", "second", "[I", false)
  | 5 => ("GatePolynomialsModel", "third", "[I", false)
  | 6 => ("GatePolynomialsModel", "added", "I", false)
  | 7 => ("GatePolynomialsModel", "claim", "[J", false)
  | 8 => ("GatePolynomialsModel", "lines", "I", false)
  | 9 => ("GatePolynomialsModel", "sizes", "[I", false)
  | 10 => ("GatePolynomialsModel", "sets", "[I", false)
  | 11 => ("GatePolynomialsModel", "numbers", "[J", false)
  | 12 => ("GatePolynomialsModel", "work", "[J", false)
  | _ => ("GatePolynomialsModel", "from", "[J", false)
def tyX3 : Nat → FieldType := fun k => match k with
  | 0 => .int
  | 1 => .int
  | 2 => .array .int
  | 3 => .array .int
  | 4 => .array .int
  | 5 => .array .int
  | 6 => .int
  | 7 => .array .long
  | 8 => .int
  | 9 => .array .int
  | 10 => .array .int
  | 11 => .array .long
  | 12 => .array .long
  | _ => .array .long
abbrev wsX30 : List Cond := u_ws RX3 TX3 14
theorem nmX3 : ∀ a, a < 14 → ∀ b, b < 14 → a ≠ b → (TX3 a).2.1 ≠ (TX3 b).2.1 := by decide +kernel
theorem tyX3_ok : ∀ k, k < 14 → parseFieldDescriptor (TX3 k).2.2.1 = some (tyX3 k) := by decide +kernel
abbrev cX3_init : ByteArray := prog_5_method_1_code
def yX3_init : MethodName := ⟨RX3, "<init>", "()V"⟩
abbrev cX3_thrown : ByteArray := prog_5_method_2_code
def yX3_thrown : MethodName := ⟨RX3, "thrown", "()I"⟩
abbrev cX3_within : ByteArray := prog_5_method_3_code
def yX3_within : MethodName := ⟨RX3, "within", "(III)Z"⟩
abbrev cX3_isSet : ByteArray := prog_5_method_4_code
def yX3_isSet : MethodName := ⟨RX3, "isSet", "(I)Z"⟩
abbrev cX3_input : ByteArray := prog_5_method_5_code
def yX3_input : MethodName := ⟨RX3, "input", "()I"⟩
abbrev cX3_isLiteral : ByteArray := prog_5_method_6_code
def yX3_isLiteral : MethodName := ⟨RX3, "isLiteral", "(I)Z"⟩
abbrev cX3_gate : ByteArray := prog_5_method_7_code
def yX3_gate : MethodName := ⟨RX3, "gate", "(IIII)I"⟩
abbrev cX3_wires : ByteArray := prog_5_method_8_code
def yX3_wires : MethodName := ⟨RX3, "wires", "()I"⟩
abbrev cX3_literal : ByteArray := prog_5_method_9_code
def yX3_literal : MethodName := ⟨RX3, "literal", "(II)I"⟩
abbrev cX3_made : ByteArray := prog_5_method_10_code
def yX3_made : MethodName := ⟨RX3, "made", "(II)I"⟩
abbrev cX3_areInputs : ByteArray := prog_5_method_11_code
def yX3_areInputs : MethodName := ⟨RX3, "areInputs", "(I)Z"⟩
abbrev cX3_settled : ByteArray := prog_5_method_12_code
def yX3_settled : MethodName := ⟨RX3, "settled", "(I)I"⟩
abbrev cX3_simulate : ByteArray := prog_5_method_13_code
def yX3_simulate : MethodName := ⟨RX3, "simulate", "(I)I"⟩
abbrev cX3_claimed : ByteArray := prog_5_method_14_code
def yX3_claimed : MethodName := ⟨RX3, "claimed", "(I)J"⟩
abbrev cX3_evaluate : ByteArray := prog_5_method_15_code
def yX3_evaluate : MethodName := ⟨RX3, "evaluate", "(I)J"⟩
abbrev cX3_add : ByteArray := prog_5_method_16_code
def yX3_add : MethodName := ⟨RX3, "add", "(II)I"⟩
abbrev cX3_coefficients : ByteArray := prog_5_method_17_code
def yX3_coefficients : MethodName := ⟨RX3, "coefficients", "()I"⟩
abbrev cX3_find : ByteArray := prog_5_method_18_code
def yX3_find : MethodName := ⟨RX3, "find", "(II)I"⟩
abbrev cX3_has : ByteArray := prog_5_method_19_code
def yX3_has : MethodName := ⟨RX3, "has", "(II)J"⟩
abbrev cX3_values : ByteArray := prog_5_method_20_code
def yX3_values : MethodName := ⟨RX3, "values", "(I)V"⟩
abbrev cX3_redirected : ByteArray := prog_5_method_21_code
def yX3_redirected : MethodName := ⟨RX3, "redirected", "(II)I"⟩
abbrev cX3_gateWire : ByteArray := prog_5_method_22_code
def yX3_gateWire : MethodName := ⟨RX3, "gateWire", "(I)I"⟩
abbrev cX3_gates : ByteArray := prog_5_method_23_code
def yX3_gates : MethodName := ⟨RX3, "gates", "()I"⟩
abbrev cX3_keep : ByteArray := prog_5_method_24_code
def yX3_keep : MethodName := ⟨RX3, "keep", "(I)V"⟩
abbrev cX3_eliminated : ByteArray := prog_5_method_25_code
def yX3_eliminated : MethodName := ⟨RX3, "eliminated", "(I)I"⟩
abbrev cX3_derived : ByteArray := prog_5_method_26_code
def yX3_derived : MethodName := ⟨RX3, "derived", "(Z)Z"⟩
abbrev cX3_prove : ByteArray := prog_5_method_27_code
def yX3_prove : MethodName := ⟨RX3, "prove", "()I"⟩
abbrev cX3_lines : ByteArray := prog_5_method_28_code
def yX3_lines : MethodName := ⟨RX3, "lines", "()I"⟩
abbrev cX3_lack : ByteArray := prog_5_method_29_code
def yX3_lack : MethodName := ⟨RX3, "lack", "(I)I"⟩
abbrev cX3_size : ByteArray := prog_5_method_30_code
def yX3_size : MethodName := ⟨RX3, "size", "(I)I"⟩
abbrev cX3_monomial : ByteArray := prog_5_method_31_code
def yX3_monomial : MethodName := ⟨RX3, "monomial", "(II)I"⟩
abbrev cX3_coefficient : ByteArray := prog_5_method_32_code
def yX3_coefficient : MethodName := ⟨RX3, "coefficient", "(II)J"⟩
abbrev cX3_spoil : ByteArray := prog_5_method_33_code
def yX3_spoil : MethodName := ⟨RX3, "spoil", "(III)J"⟩
abbrev cX3_right : ByteArray := prog_5_method_34_code
def yX3_right : MethodName := ⟨RX3, "right", "(I)Z"⟩
abbrev cX3_check : ByteArray := prog_5_method_35_code
def yX3_check : MethodName := ⟨RX3, "check", "()I"⟩
abbrev cX3_many : ByteArray := prog_5_method_36_code
def yX3_many : MethodName := ⟨RX3, "many", "(I)I"⟩
abbrev cX3_witness : ByteArray := prog_5_method_37_code
def yX3_witness : MethodName := ⟨RX3, "witness", "()I"⟩
abbrev cX3_clear : ByteArray := prog_5_method_38_code
def yX3_clear : MethodName := ⟨RX3, "clear", "()I"⟩
def RJx145de : String := "java/io/Serializable"
def TJx145de : u_T := fun k => match k with
  | _ => ("", "", "", false)
def tyJx145de : Nat → FieldType := fun k => match k with
  | _ => .int
abbrev wsJx145de0 : List Cond := u_ws RJx145de TJx145de 0
theorem nmJx145de : ∀ a, a < 0 → ∀ b, b < 0 → a ≠ b → (TJx145de a).2.1 ≠ (TJx145de b).2.1 := by decide +kernel
theorem tyJx145de_ok : ∀ k, k < 0 → parseFieldDescriptor (TJx145de k).2.2.1 = some (tyJx145de k) := by decide +kernel
def RJx00060 : String := "java/lang/ArrayIndexOutOfBoundsException"
def TJx00060 : u_T := fun k => match k with
  | 0 => ("java/lang/Throwable", "backtrace", "Ljava/lang/Object;", false)
  | 1 => ("java/lang/Throwable", "detailMessage", "Ljava/lang/String;", false)
  | 2 => ("java/lang/Throwable", "cause", "Ljava/lang/Throwable;", false)
  | 3 => ("java/lang/Throwable", "stackTrace", "[Ljava/lang/StackTraceElement;", false)
  | 4 => ("java/lang/Throwable", "depth", "I", false)
  | _ => ("java/lang/Throwable", "suppressedExceptions", "Ljava/util/List;", false)
def tyJx00060 : Nat → FieldType := fun k => match k with
  | 0 => .object "java/lang/Object"
  | 1 => .object "java/lang/String"
  | 2 => .object "java/lang/Throwable"
  | 3 => .array (.object "java/lang/StackTraceElement")
  | 4 => .int
  | _ => .object "java/util/List"
abbrev wsJx000600 : List Cond := u_ws RJx00060 TJx00060 6
theorem nmJx00060 : ∀ a, a < 6 → ∀ b, b < 6 → a ≠ b → (TJx00060 a).2.1 ≠ (TJx00060 b).2.1 := by decide +kernel
theorem tyJx00060_ok : ∀ k, k < 6 → parseFieldDescriptor (TJx00060 k).2.2.1 = some (tyJx00060 k) := by decide +kernel
abbrev cJx00060_init_a7421 : ByteArray := prog_8_method_2_code
def yJx00060_init_a7421 : MethodName := ⟨RJx00060, "<init>", "(Ljava/lang/String;)V"⟩
def RJ6 : String := "java/lang/Integer"
def TJ6 : u_T := fun k => match k with
  | _ => ("", "", "", false)
def tyJ6 : Nat → FieldType := fun k => match k with
  | _ => .int
abbrev wsJ60 : List Cond := u_ws RJ6 TJ6 0
theorem nmJ6 : ∀ a, a < 0 → ∀ b, b < 0 → a ≠ b → (TJ6 a).2.1 ≠ (TJ6 b).2.1 := by decide +kernel
theorem tyJ6_ok : ∀ k, k < 0 → parseFieldDescriptor (TJ6 k).2.2.1 = some (tyJ6 k) := by decide +kernel
abbrev cJ6_bitCount_0f7a4 : ByteArray := prog_13_method_49_code
def yJ6_bitCount_0f7a4 : MethodName := ⟨RJ6, "bitCount", "(I)I"⟩
def RJ0 : String := "java/lang/String"
def TJ0 : u_T := fun k => match k with
  | 0 => ("java/lang/String", "value", "[B", true)
  | _ => ("java/lang/String", "coder", "B", true)
def tyJ0 : Nat → FieldType := fun k => match k with
  | 0 => .array .byte
  | _ => .byte
abbrev wsJ00 : List Cond := u_ws RJ0 TJ0 2
theorem nmJ0 : ∀ a, a < 2 → ∀ b, b < 2 → a ≠ b → (TJ0 a).2.1 ≠ (TJ0 b).2.1 := by decide +kernel
theorem tyJ0_ok : ∀ k, k < 2 → parseFieldDescriptor (TJ0 k).2.2.1 = some (tyJ0 k) := by decide +kernel
def RJ10 : String := "java/lang/System"
def TJ10 : u_T := fun k => match k with
  | _ => ("", "", "", false)
def tyJ10 : Nat → FieldType := fun k => match k with
  | _ => .int
abbrev wsJ100 : List Cond := u_ws RJ10 TJ10 0
theorem nmJ10 : ∀ a, a < 0 → ∀ b, b < 0 → a ≠ b → (TJ10 a).2.1 ≠ (TJ10 b).2.1 := by decide +kernel
theorem tyJ10_ok : ∀ k, k < 0 → parseFieldDescriptor (TJ10 k).2.2.1 = some (tyJ10 k) := by decide +kernel
def RJ7 : String := "java/util/Arrays"
def TJ7 : u_T := fun k => match k with
  | _ => ("", "", "", false)
def tyJ7 : Nat → FieldType := fun k => match k with
  | _ => .int
abbrev wsJ70 : List Cond := u_ws RJ7 TJ7 0
theorem nmJ7 : ∀ a, a < 0 → ∀ b, b < 0 → a ≠ b → (TJ7 a).2.1 ≠ (TJ7 b).2.1 := by decide +kernel
theorem tyJ7_ok : ∀ k, k < 0 → parseFieldDescriptor (TJ7 k).2.2.1 = some (tyJ7 k) := by decide +kernel
abbrev cJ7_fill_d0a16 : ByteArray := prog_18_method_101_code
def yJ7_fill_d0a16 : MethodName := ⟨RJ7, "fill", "([JJ)V"⟩
def RL : String := "GatePolynomialsLaw"
abbrev cL_input : ByteArray := method_3_code
def yL_input : MethodName := ⟨RL, "input", "(LGatePolynomials;[J)I"⟩
abbrev cL_gate : ByteArray := method_4_code
def yL_gate : MethodName := ⟨RL, "gate", "(LGatePolynomials;IIII[J)I"⟩
abbrev cL_add : ByteArray := method_5_code
def yL_add : MethodName := ⟨RL, "add", "(LGatePolynomials;II[J)I"⟩
abbrev cL_simulate : ByteArray := method_6_code
def yL_simulate : MethodName := ⟨RL, "simulate", "(LGatePolynomials;I[J)I"⟩
abbrev cL_evaluate : ByteArray := method_7_code
def yL_evaluate : MethodName := ⟨RL, "evaluate", "(LGatePolynomials;I[J)I"⟩
abbrev cL_prove : ByteArray := method_8_code
def yL_prove : MethodName := ⟨RL, "prove", "(LGatePolynomials;[J)I"⟩
abbrev cL_size : ByteArray := method_9_code
def yL_size : MethodName := ⟨RL, "size", "(LGatePolynomials;I[J)I"⟩
abbrev cL_monomial : ByteArray := method_10_code
def yL_monomial : MethodName := ⟨RL, "monomial", "(LGatePolynomials;II[J)I"⟩
abbrev cL_coefficient : ByteArray := method_11_code
def yL_coefficient : MethodName := ⟨RL, "coefficient", "(LGatePolynomials;II[J)I"⟩
abbrev cL_spoil : ByteArray := method_12_code
def yL_spoil : MethodName := ⟨RL, "spoil", "(LGatePolynomials;III[J)I"⟩
abbrev cL_check : ByteArray := method_13_code
def yL_check : MethodName := ⟨RL, "check", "(LGatePolynomials;[J)I"⟩
abbrev cL_witness : ByteArray := method_14_code
def yL_witness : MethodName := ⟨RL, "witness", "(LGatePolynomials;[J)I"⟩
abbrev cL_law : ByteArray := code
def yL_law : MethodName := ⟨RL, "law", "([I)Z"⟩

abbrev kcl : List vw_C := [(RX0, TX0, 6), (RX1, TX1, 2), (RX2, TX2, 8), (RX3, TX3, 14)]
def WW : List Cond := lw_tbl.filter goodWord
theorem WW_of {w : Cond} (h : w ∈ lw_tbl) (g : goodWord w = true) : w ∈ WW := List.mem_filter.mpr ⟨h, g⟩
theorem WW_good {w : Cond} (h : w ∈ WW) : goodWord w = true := (List.mem_filter.mp h).2
theorem WW_tbl {w : Cond} (h : w ∈ WW) : w ∈ lw_tbl := (List.mem_filter.mp h).1
theorem iN_L : Cond.initialized RL ∈ WW := WW_of (List.mem_of_getElem? (i := 33) (by decide +kernel)) rfl
theorem iN_X2 : Cond.initialized RX2 ∈ WW := WW_of (List.mem_of_getElem? (i := 34) (by decide +kernel)) rfl
theorem iN_X1 : Cond.initialized RX1 ∈ WW := WW_of (List.mem_of_getElem? (i := 35) (by decide +kernel)) rfl
theorem iN_X0 : Cond.initialized RX0 ∈ WW := WW_of (List.mem_of_getElem? (i := 36) (by decide +kernel)) rfl
theorem iN_X3 : Cond.initialized RX3 ∈ WW := WW_of (List.mem_of_getElem? (i := 37) (by decide +kernel)) rfl
theorem iN__java_lang_Throwable : Cond.initialized "java/lang/Throwable" ∈ WW := WW_of (List.mem_of_getElem? (i := 38) (by decide +kernel)) rfl
theorem iN__java_lang_Exception : Cond.initialized "java/lang/Exception" ∈ WW := WW_of (List.mem_of_getElem? (i := 39) (by decide +kernel)) rfl
theorem iN__java_lang_RuntimeException : Cond.initialized "java/lang/RuntimeException" ∈ WW := WW_of (List.mem_of_getElem? (i := 40) (by decide +kernel)) rfl
theorem iN__java_lang_IllegalStateException : Cond.initialized "java/lang/IllegalStateException" ∈ WW := WW_of (List.mem_of_getElem? (i := 41) (by decide +kernel)) rfl
theorem iN__java_lang_IllegalArgumentException : Cond.initialized "java/lang/IllegalArgumentException" ∈ WW := WW_of (List.mem_of_getElem? (i := 42) (by decide +kernel)) rfl
theorem iN__java_lang_ArithmeticException : Cond.initialized "java/lang/ArithmeticException" ∈ WW := WW_of (List.mem_of_getElem? (i := 43) (by decide +kernel)) rfl
theorem iN_J0 : Cond.initialized RJ0 ∈ WW := WW_of (List.mem_of_getElem? (i := 44) (by decide +kernel)) rfl
theorem iN_J10 : Cond.initialized RJ10 ∈ WW := WW_of (List.mem_of_getElem? (i := 45) (by decide +kernel)) rfl
theorem iN_J7 : Cond.initialized RJ7 ∈ WW := WW_of (List.mem_of_getElem? (i := 46) (by decide +kernel)) rfl
theorem iN__java_lang_IndexOutOfBoundsException : Cond.initialized "java/lang/IndexOutOfBoundsException" ∈ WW := WW_of (List.mem_of_getElem? (i := 47) (by decide +kernel)) rfl
theorem iN_Jx00060 : Cond.initialized RJx00060 ∈ WW := WW_of (List.mem_of_getElem? (i := 48) (by decide +kernel)) rfl
theorem iN__java_util_NoSuchElementException : Cond.initialized "java/util/NoSuchElementException" ∈ WW := WW_of (List.mem_of_getElem? (i := 49) (by decide +kernel)) rfl
theorem iN_J6 : Cond.initialized RJ6 ∈ WW := WW_of (List.mem_of_getElem? (i := 50) (by decide +kernel)) rfl
theorem kL_L_8 : Cond.classLink RL 8 "GatePolynomials" ∈ WW := WW_of (List.mem_of_getElem? (i := 51) (by decide +kernel)) rfl
theorem iT_X2 : Cond.instantiable RX2 8 ∈ WW := WW_of (List.mem_of_getElem? (i := 52) (by decide +kernel)) rfl
theorem mL_L_62 : Cond.methodLink RL 62 yX2_init ∈ WW := WW_of (List.mem_of_getElem? (i := 53) (by decide +kernel)) rfl
theorem yI_X2_init : Cond.instanceMethod yX2_init ∈ WW := WW_of (List.mem_of_getElem? (i := 54) (by decide +kernel)) rfl
theorem cd_X2_init : Cond.code yX2_init prog_1_method_1_code 2 none ∈ WW := WW_of (List.mem_of_getElem? (i := 55) (by decide +kernel)) rfl
theorem mL_X2_1 : Cond.methodLink RX2 1 (⟨"java/lang/Object", "<init>", "()V"⟩ : MethodName) ∈ WW := WW_of (List.mem_of_getElem? (i := 56) (by decide +kernel)) rfl
theorem yI_objinit : Cond.instanceMethod (⟨"java/lang/Object", "<init>", "()V"⟩ : MethodName) ∈ WW := WW_of (List.mem_of_getElem? (i := 57) (by decide +kernel)) rfl
theorem cd_objinit : Cond.code (⟨"java/lang/Object", "<init>", "()V"⟩ : MethodName) object_method_1_code 1 none ∈ WW := WW_of (List.mem_of_getElem? (i := 58) (by decide +kernel)) rfl
theorem kL_X2_9 : Cond.classLink RX2 9 "GatePolynomials$Gate" ∈ WW := WW_of (List.mem_of_getElem? (i := 59) (by decide +kernel)) rfl
theorem kL_X2_15 : Cond.classLink RX2 15 "GatePolynomials$Polynomial" ∈ WW := WW_of (List.mem_of_getElem? (i := 61) (by decide +kernel)) rfl
theorem iT_X1 : Cond.instantiable RX1 2 ∈ WW := WW_of (List.mem_of_getElem? (i := 62) (by decide +kernel)) rfl
theorem yI_X1_init : Cond.instanceMethod yX1_init ∈ WW := WW_of (List.mem_of_getElem? (i := 64) (by decide +kernel)) rfl
theorem cd_X1_init : Cond.code yX1_init prog_3_method_1_code 1 none ∈ WW := WW_of (List.mem_of_getElem? (i := 65) (by decide +kernel)) rfl
theorem mL_X1_3 : Cond.methodLink RX1 3 (⟨"java/lang/Object", "<init>", "()V"⟩ : MethodName) ∈ WW := WW_of (List.mem_of_getElem? (i := 66) (by decide +kernel)) rfl
theorem fL_X1_9 : Cond.fieldLink RX1 9 "GatePolynomials$Polynomial" "numbers" "[J" ∈ WW := WW_of (List.mem_of_getElem? (i := 67) (by decide +kernel)) rfl
theorem fL_X1_21 : Cond.fieldLink RX1 21 "GatePolynomials$Polynomial" "monomials" "I" ∈ WW := WW_of (List.mem_of_getElem? (i := 68) (by decide +kernel)) rfl
theorem aC_long : Cond.arrayClass .long ∈ WW := WW_of (List.mem_of_getElem? (i := 74) (by decide +kernel)) rfl
theorem iT_X0 : Cond.instantiable RX0 6 ∈ WW := WW_of (List.mem_of_getElem? (i := 76) (by decide +kernel)) rfl
theorem yI_X0_init : Cond.instanceMethod yX0_init ∈ WW := WW_of (List.mem_of_getElem? (i := 78) (by decide +kernel)) rfl
theorem cd_X0_init : Cond.code yX0_init prog_2_method_1_code 1 none ∈ WW := WW_of (List.mem_of_getElem? (i := 79) (by decide +kernel)) rfl
theorem mL_X0_3 : Cond.methodLink RX0 3 (⟨"java/lang/Object", "<init>", "()V"⟩ : MethodName) ∈ WW := WW_of (List.mem_of_getElem? (i := 80) (by decide +kernel)) rfl
theorem fL_X0_19 : Cond.fieldLink RX0 19 "GatePolynomials$Gate" "kind" "I" ∈ WW := WW_of (List.mem_of_getElem? (i := 81) (by decide +kernel)) rfl
theorem fL_X0_23 : Cond.fieldLink RX0 23 "GatePolynomials$Gate" "a" "I" ∈ WW := WW_of (List.mem_of_getElem? (i := 82) (by decide +kernel)) rfl
theorem fL_X0_26 : Cond.fieldLink RX0 26 "GatePolynomials$Gate" "b" "I" ∈ WW := WW_of (List.mem_of_getElem? (i := 83) (by decide +kernel)) rfl
theorem fL_X0_29 : Cond.fieldLink RX0 29 "GatePolynomials$Gate" "c" "I" ∈ WW := WW_of (List.mem_of_getElem? (i := 84) (by decide +kernel)) rfl
theorem fL_X0_11 : Cond.fieldLink RX0 11 "GatePolynomials$Gate" "termSets" "[I" ∈ WW := WW_of (List.mem_of_getElem? (i := 85) (by decide +kernel)) rfl
theorem fL_X0_15 : Cond.fieldLink RX0 15 "GatePolynomials$Gate" "termNumbers" "[J" ∈ WW := WW_of (List.mem_of_getElem? (i := 86) (by decide +kernel)) rfl
theorem aC_int : Cond.arrayClass .int ∈ WW := WW_of (List.mem_of_getElem? (i := 100) (by decide +kernel)) rfl
theorem fL_X2_11 : Cond.fieldLink RX2 11 "GatePolynomials" "gates" "[LGatePolynomials$Gate;" ∈ WW := WW_of (List.mem_of_getElem? (i := 101) (by decide +kernel)) rfl
theorem fL_X2_37 : Cond.fieldLink RX2 37 "GatePolynomials" "wireCount" "I" ∈ WW := WW_of (List.mem_of_getElem? (i := 102) (by decide +kernel)) rfl
theorem fL_X2_33 : Cond.fieldLink RX2 33 "GatePolynomials" "inputWires" "I" ∈ WW := WW_of (List.mem_of_getElem? (i := 103) (by decide +kernel)) rfl
theorem fL_X2_18 : Cond.fieldLink RX2 18 "GatePolynomials" "claim" "LGatePolynomials$Polynomial;" ∈ WW := WW_of (List.mem_of_getElem? (i := 104) (by decide +kernel)) rfl
theorem fL_X2_68 : Cond.fieldLink RX2 68 "GatePolynomials" "additions" "I" ∈ WW := WW_of (List.mem_of_getElem? (i := 105) (by decide +kernel)) rfl
theorem fL_X2_22 : Cond.fieldLink RX2 22 "GatePolynomials" "proof" "[LGatePolynomials$Polynomial;" ∈ WW := WW_of (List.mem_of_getElem? (i := 106) (by decide +kernel)) rfl
theorem fL_X2_113 : Cond.fieldLink RX2 113 "GatePolynomials" "lineCount" "I" ∈ WW := WW_of (List.mem_of_getElem? (i := 107) (by decide +kernel)) rfl
theorem fL_X2_26 : Cond.fieldLink RX2 26 "GatePolynomials" "expected" "LGatePolynomials$Polynomial;" ∈ WW := WW_of (List.mem_of_getElem? (i := 108) (by decide +kernel)) rfl
theorem mL_L_79 : Cond.methodLink RL 79 yX2_wires ∈ WW := WW_of (List.mem_of_getElem? (i := 126) (by decide +kernel)) rfl
theorem yI_X2_wires : Cond.instanceMethod yX2_wires ∈ WW := WW_of (List.mem_of_getElem? (i := 127) (by decide +kernel)) rfl
theorem sl_X2_wires : Cond.selects RX2 yX2_wires yX2_wires ∈ WW := WW_of (List.mem_of_getElem? (i := 128) (by decide +kernel)) rfl
theorem cd_X2_wires : Cond.code yX2_wires prog_1_method_4_code 1 (some .int) ∈ WW := WW_of (List.mem_of_getElem? (i := 129) (by decide +kernel)) rfl
theorem mL_L_97 : Cond.methodLink RL 97 yX2_lines ∈ WW := WW_of (List.mem_of_getElem? (i := 130) (by decide +kernel)) rfl
theorem yI_X2_lines : Cond.instanceMethod yX2_lines ∈ WW := WW_of (List.mem_of_getElem? (i := 131) (by decide +kernel)) rfl
theorem sl_X2_lines : Cond.selects RX2 yX2_lines yX2_lines ∈ WW := WW_of (List.mem_of_getElem? (i := 132) (by decide +kernel)) rfl
theorem cd_X2_lines : Cond.code yX2_lines prog_1_method_9_code 1 (some .int) ∈ WW := WW_of (List.mem_of_getElem? (i := 133) (by decide +kernel)) rfl
theorem mL_L_120 : Cond.methodLink RL 120 yX2_clear ∈ WW := WW_of (List.mem_of_getElem? (i := 134) (by decide +kernel)) rfl
theorem yI_X2_clear : Cond.instanceMethod yX2_clear ∈ WW := WW_of (List.mem_of_getElem? (i := 135) (by decide +kernel)) rfl
theorem sl_X2_clear : Cond.selects RX2 yX2_clear yX2_clear ∈ WW := WW_of (List.mem_of_getElem? (i := 136) (by decide +kernel)) rfl
theorem cd_X2_clear : Cond.code yX2_clear prog_1_method_16_code 2 (some .int) ∈ WW := WW_of (List.mem_of_getElem? (i := 137) (by decide +kernel)) rfl
theorem mL_X2_151 : Cond.methodLink RX2 151 yX1_erase ∈ WW := WW_of (List.mem_of_getElem? (i := 138) (by decide +kernel)) rfl
theorem yI_X1_erase : Cond.instanceMethod yX1_erase ∈ WW := WW_of (List.mem_of_getElem? (i := 139) (by decide +kernel)) rfl
theorem sl_X1_erase : Cond.selects RX1 yX1_erase yX1_erase ∈ WW := WW_of (List.mem_of_getElem? (i := 140) (by decide +kernel)) rfl
theorem cd_X1_erase : Cond.code yX1_erase prog_3_method_2_code 1 none ∈ WW := WW_of (List.mem_of_getElem? (i := 141) (by decide +kernel)) rfl
theorem mL_X1_15 : Cond.methodLink RX1 15 yJ7_fill_d0a16 ∈ WW := WW_of (List.mem_of_getElem? (i := 142) (by decide +kernel)) rfl
theorem yS_J7_fill_d0a16 : Cond.static yJ7_fill_d0a16 ∈ WW := WW_of (List.mem_of_getElem? (i := 143) (by decide +kernel)) rfl
theorem cd_J7_fill_d0a16 : Cond.code yJ7_fill_d0a16 prog_18_method_101_code 5 none ∈ WW := WW_of (List.mem_of_getElem? (i := 144) (by decide +kernel)) rfl
theorem mL_X2_80 : Cond.methodLink RX2 80 yX2_dropProof ∈ WW := WW_of (List.mem_of_getElem? (i := 145) (by decide +kernel)) rfl
theorem yI_X2_dropProof : Cond.instanceMethod yX2_dropProof ∈ WW := WW_of (List.mem_of_getElem? (i := 147) (by decide +kernel)) rfl
theorem cd_X2_dropProof : Cond.code yX2_dropProof prog_1_method_18_code 1 none ∈ WW := WW_of (List.mem_of_getElem? (i := 148) (by decide +kernel)) rfl
theorem mL_L_66 : Cond.methodLink RL 66 yL_input ∈ WW := WW_of (List.mem_of_getElem? (i := 149) (by decide +kernel)) rfl
theorem yS_L_input : Cond.static yL_input ∈ WW := WW_of (List.mem_of_getElem? (i := 150) (by decide +kernel)) rfl
theorem cd_L_input : Cond.codeWith yL_input method_3_code 3 (some .int) [(0, 8, 11, 13)] ∈ WW := WW_of (List.mem_of_getElem? (i := 151) (by decide +kernel)) rfl
theorem kL_L_13 : Cond.classLink RL 13 "java/lang/IllegalStateException" ∈ WW := WW_of (List.mem_of_getElem? (i := 152) (by decide +kernel)) rfl
theorem mL_L_7 : Cond.methodLink RL 7 yX2_input ∈ WW := WW_of (List.mem_of_getElem? (i := 153) (by decide +kernel)) rfl
theorem yI_X2_input : Cond.instanceMethod yX2_input ∈ WW := WW_of (List.mem_of_getElem? (i := 154) (by decide +kernel)) rfl
theorem sl_X2_input : Cond.selects RX2 yX2_input yX2_input ∈ WW := WW_of (List.mem_of_getElem? (i := 155) (by decide +kernel)) rfl
theorem cd_X2_input : Cond.code yX2_input prog_1_method_2_code 1 (some .int) ∈ WW := WW_of (List.mem_of_getElem? (i := 156) (by decide +kernel)) rfl
theorem mL_X2_30 : Cond.methodLink RX2 30 yX2_refuseTenthWire ∈ WW := WW_of (List.mem_of_getElem? (i := 157) (by decide +kernel)) rfl
theorem yI_X2_refuseTenthWire : Cond.instanceMethod yX2_refuseTenthWire ∈ WW := WW_of (List.mem_of_getElem? (i := 159) (by decide +kernel)) rfl
theorem cd_X2_refuseTenthWire : Cond.code yX2_refuseTenthWire prog_1_method_19_code 1 none ∈ WW := WW_of (List.mem_of_getElem? (i := 160) (by decide +kernel)) rfl
theorem kL_X2_71 : Cond.classLink RX2 71 "java/lang/IllegalStateException" ∈ WW := WW_of (List.mem_of_getElem? (i := 161) (by decide +kernel)) rfl
theorem iT__java_lang_IllegalStateException : Cond.instantiable "java/lang/IllegalStateException" 6 ∈ WW := WW_of (List.mem_of_getElem? (i := 162) (by decide +kernel)) rfl
theorem iT__java_lang_Throwable : Cond.instantiable "java/lang/Throwable" 6 ∈ WW := WW_of (List.mem_of_getElem? (i := 203) (by decide +kernel)) rfl
theorem mL_X2_75 : Cond.methodLink RX2 75 (⟨"java/lang/IllegalStateException", "<init>", "(Ljava/lang/String;)V"⟩ : MethodName) ∈ WW := WW_of (List.mem_of_getElem? (i := 206) (by decide +kernel)) rfl
theorem aC_byte : Cond.arrayClass .byte ∈ WW := WW_of (List.mem_of_getElem? (i := 231) (by decide +kernel)) rfl
theorem mL_X2_40 : Cond.methodLink RX2 40 yX2_bitOf ∈ WW := WW_of (List.mem_of_getElem? (i := 232) (by decide +kernel)) rfl
theorem yS_X2_bitOf : Cond.static yX2_bitOf ∈ WW := WW_of (List.mem_of_getElem? (i := 233) (by decide +kernel)) rfl
theorem cd_X2_bitOf : Cond.code yX2_bitOf prog_1_method_28_code 1 (some .int) ∈ WW := WW_of (List.mem_of_getElem? (i := 234) (by decide +kernel)) rfl
theorem mL_X2_44 : Cond.methodLink RX2 44 yX2_countNewWire ∈ WW := WW_of (List.mem_of_getElem? (i := 235) (by decide +kernel)) rfl
theorem yI_X2_countNewWire : Cond.instanceMethod yX2_countNewWire ∈ WW := WW_of (List.mem_of_getElem? (i := 237) (by decide +kernel)) rfl
theorem cd_X2_countNewWire : Cond.code yX2_countNewWire prog_1_method_17_code 1 (some .int) ∈ WW := WW_of (List.mem_of_getElem? (i := 238) (by decide +kernel)) rfl
theorem mL_L_75 : Cond.methodLink RL 75 yL_gate ∈ WW := WW_of (List.mem_of_getElem? (i := 239) (by decide +kernel)) rfl
theorem yS_L_gate : Cond.static yL_gate ∈ WW := WW_of (List.mem_of_getElem? (i := 240) (by decide +kernel)) rfl
theorem cd_L_gate : Cond.codeWith yL_gate method_4_code 7 (some .int) [(0, 14, 17, 19), (0, 14, 21, 13)] ∈ WW := WW_of (List.mem_of_getElem? (i := 241) (by decide +kernel)) rfl
theorem kL_L_19 : Cond.classLink RL 19 "java/lang/IllegalArgumentException" ∈ WW := WW_of (List.mem_of_getElem? (i := 242) (by decide +kernel)) rfl
theorem mL_L_15 : Cond.methodLink RL 15 yX2_gate ∈ WW := WW_of (List.mem_of_getElem? (i := 243) (by decide +kernel)) rfl
theorem yI_X2_gate : Cond.instanceMethod yX2_gate ∈ WW := WW_of (List.mem_of_getElem? (i := 244) (by decide +kernel)) rfl
theorem sl_X2_gate : Cond.selects RX2 yX2_gate yX2_gate ∈ WW := WW_of (List.mem_of_getElem? (i := 245) (by decide +kernel)) rfl
theorem cd_X2_gate : Cond.code yX2_gate prog_1_method_3_code 7 (some .int) ∈ WW := WW_of (List.mem_of_getElem? (i := 246) (by decide +kernel)) rfl
theorem mL_X2_48 : Cond.methodLink RX2 48 yX2_isLiteral ∈ WW := WW_of (List.mem_of_getElem? (i := 247) (by decide +kernel)) rfl
theorem yI_X2_isLiteral : Cond.instanceMethod yX2_isLiteral ∈ WW := WW_of (List.mem_of_getElem? (i := 249) (by decide +kernel)) rfl
theorem cd_X2_isLiteral : Cond.code yX2_isLiteral prog_1_method_25_code 2 (some .boolean) ∈ WW := WW_of (List.mem_of_getElem? (i := 250) (by decide +kernel)) rfl
theorem kL_X2_52 : Cond.classLink RX2 52 "java/lang/IllegalArgumentException" ∈ WW := WW_of (List.mem_of_getElem? (i := 251) (by decide +kernel)) rfl
theorem iT__java_lang_IllegalArgumentException : Cond.instantiable "java/lang/IllegalArgumentException" 6 ∈ WW := WW_of (List.mem_of_getElem? (i := 252) (by decide +kernel)) rfl
theorem mL_X2_56 : Cond.methodLink RX2 56 (⟨"java/lang/IllegalArgumentException", "<init>", "(Ljava/lang/String;)V"⟩ : MethodName) ∈ WW := WW_of (List.mem_of_getElem? (i := 261) (by decide +kernel)) rfl
theorem mL_X2_59 : Cond.methodLink RX2 59 yX0_become ∈ WW := WW_of (List.mem_of_getElem? (i := 267) (by decide +kernel)) rfl
theorem yI_X0_become : Cond.instanceMethod yX0_become ∈ WW := WW_of (List.mem_of_getElem? (i := 268) (by decide +kernel)) rfl
theorem sl_X0_become : Cond.selects RX0 yX0_become yX0_become ∈ WW := WW_of (List.mem_of_getElem? (i := 269) (by decide +kernel)) rfl
theorem cd_X0_become : Cond.code yX0_become prog_2_method_2_code 6 none ∈ WW := WW_of (List.mem_of_getElem? (i := 270) (by decide +kernel)) rfl
theorem mL_X0_32 : Cond.methodLink RX0 32 yX0_setTermToValue ∈ WW := WW_of (List.mem_of_getElem? (i := 271) (by decide +kernel)) rfl
theorem yI_X0_setTermToValue : Cond.instanceMethod yX0_setTermToValue ∈ WW := WW_of (List.mem_of_getElem? (i := 273) (by decide +kernel)) rfl
theorem cd_X0_setTermToValue : Cond.code yX0_setTermToValue prog_2_method_5_code 5 none ∈ WW := WW_of (List.mem_of_getElem? (i := 274) (by decide +kernel)) rfl
theorem mL_X0_54 : Cond.methodLink RX0 54 yX0_wireBit ∈ WW := WW_of (List.mem_of_getElem? (i := 275) (by decide +kernel)) rfl
theorem yS_X0_wireBit : Cond.static yX0_wireBit ∈ WW := WW_of (List.mem_of_getElem? (i := 276) (by decide +kernel)) rfl
theorem cd_X0_wireBit : Cond.code yX0_wireBit prog_2_method_10_code 1 (some .int) ∈ WW := WW_of (List.mem_of_getElem? (i := 277) (by decide +kernel)) rfl
theorem mL_X0_58 : Cond.methodLink RX0 58 yX0_literalFor ∈ WW := WW_of (List.mem_of_getElem? (i := 279) (by decide +kernel)) rfl
theorem yS_X0_literalFor : Cond.static yX0_literalFor ∈ WW := WW_of (List.mem_of_getElem? (i := 280) (by decide +kernel)) rfl
theorem cd_X0_literalFor : Cond.code yX0_literalFor prog_2_method_9_code 2 (some .int) ∈ WW := WW_of (List.mem_of_getElem? (i := 281) (by decide +kernel)) rfl
theorem mL_X0_44 : Cond.methodLink RX0 44 yX0_outcome ∈ WW := WW_of (List.mem_of_getElem? (i := 282) (by decide +kernel)) rfl
theorem yI_X0_outcome : Cond.instanceMethod yX0_outcome ∈ WW := WW_of (List.mem_of_getElem? (i := 284) (by decide +kernel)) rfl
theorem cd_X0_outcome : Cond.code yX0_outcome prog_2_method_7_code 4 (some .int) ∈ WW := WW_of (List.mem_of_getElem? (i := 285) (by decide +kernel)) rfl
theorem mL_X0_36 : Cond.methodLink RX0 36 yX0_turnValuesToNumbers ∈ WW := WW_of (List.mem_of_getElem? (i := 286) (by decide +kernel)) rfl
theorem yI_X0_turnValuesToNumbers : Cond.instanceMethod yX0_turnValuesToNumbers ∈ WW := WW_of (List.mem_of_getElem? (i := 288) (by decide +kernel)) rfl
theorem cd_X0_turnValuesToNumbers : Cond.code yX0_turnValuesToNumbers prog_2_method_6_code 3 none ∈ WW := WW_of (List.mem_of_getElem? (i := 289) (by decide +kernel)) rfl
theorem mL_L_83 : Cond.methodLink RL 83 yL_add ∈ WW := WW_of (List.mem_of_getElem? (i := 290) (by decide +kernel)) rfl
theorem yS_L_add : Cond.static yL_add ∈ WW := WW_of (List.mem_of_getElem? (i := 291) (by decide +kernel)) rfl
theorem cd_L_add : Cond.codeWith yL_add method_5_code 5 (some .int) [(0, 10, 13, 19), (0, 10, 17, 13)] ∈ WW := WW_of (List.mem_of_getElem? (i := 292) (by decide +kernel)) rfl
theorem mL_L_21 : Cond.methodLink RL 21 yX2_add ∈ WW := WW_of (List.mem_of_getElem? (i := 293) (by decide +kernel)) rfl
theorem yI_X2_add : Cond.instanceMethod yX2_add ∈ WW := WW_of (List.mem_of_getElem? (i := 294) (by decide +kernel)) rfl
theorem sl_X2_add : Cond.selects RX2 yX2_add yX2_add ∈ WW := WW_of (List.mem_of_getElem? (i := 295) (by decide +kernel)) rfl
theorem cd_X2_add : Cond.code yX2_add prog_1_method_5_code 3 (some .int) ∈ WW := WW_of (List.mem_of_getElem? (i := 296) (by decide +kernel)) rfl
theorem mL_X2_63 : Cond.methodLink RX2 63 yX2_isSet ∈ WW := WW_of (List.mem_of_getElem? (i := 297) (by decide +kernel)) rfl
theorem yI_X2_isSet : Cond.instanceMethod yX2_isSet ∈ WW := WW_of (List.mem_of_getElem? (i := 299) (by decide +kernel)) rfl
theorem cd_X2_isSet : Cond.code yX2_isSet prog_1_method_24_code 2 (some .boolean) ∈ WW := WW_of (List.mem_of_getElem? (i := 300) (by decide +kernel)) rfl
theorem mL_X2_76 : Cond.methodLink RX2 76 yX1_increase ∈ WW := WW_of (List.mem_of_getElem? (i := 303) (by decide +kernel)) rfl
theorem yI_X1_increase : Cond.instanceMethod yX1_increase ∈ WW := WW_of (List.mem_of_getElem? (i := 304) (by decide +kernel)) rfl
theorem sl_X1_increase : Cond.selects RX1 yX1_increase yX1_increase ∈ WW := WW_of (List.mem_of_getElem? (i := 305) (by decide +kernel)) rfl
theorem cd_X1_increase : Cond.code yX1_increase prog_3_method_5_code 8 (some .long) ∈ WW := WW_of (List.mem_of_getElem? (i := 306) (by decide +kernel)) rfl
theorem mL_L_87 : Cond.methodLink RL 87 yL_simulate ∈ WW := WW_of (List.mem_of_getElem? (i := 307) (by decide +kernel)) rfl
theorem yS_L_simulate : Cond.static yL_simulate ∈ WW := WW_of (List.mem_of_getElem? (i := 308) (by decide +kernel)) rfl
theorem cd_L_simulate : Cond.codeWith yL_simulate method_6_code 4 (some .int) [(0, 9, 12, 19)] ∈ WW := WW_of (List.mem_of_getElem? (i := 309) (by decide +kernel)) rfl
theorem mL_L_25 : Cond.methodLink RL 25 yX2_simulate ∈ WW := WW_of (List.mem_of_getElem? (i := 310) (by decide +kernel)) rfl
theorem yI_X2_simulate : Cond.instanceMethod yX2_simulate ∈ WW := WW_of (List.mem_of_getElem? (i := 311) (by decide +kernel)) rfl
theorem sl_X2_simulate : Cond.selects RX2 yX2_simulate yX2_simulate ∈ WW := WW_of (List.mem_of_getElem? (i := 312) (by decide +kernel)) rfl
theorem cd_X2_simulate : Cond.code yX2_simulate prog_1_method_6_code 2 (some .int) ∈ WW := WW_of (List.mem_of_getElem? (i := 313) (by decide +kernel)) rfl
theorem mL_X2_83 : Cond.methodLink RX2 83 yX2_refuseOtherThanInputs ∈ WW := WW_of (List.mem_of_getElem? (i := 314) (by decide +kernel)) rfl
theorem yI_X2_refuseOtherThanInputs : Cond.instanceMethod yX2_refuseOtherThanInputs ∈ WW := WW_of (List.mem_of_getElem? (i := 316) (by decide +kernel)) rfl
theorem cd_X2_refuseOtherThanInputs : Cond.code yX2_refuseOtherThanInputs prog_1_method_20_code 2 none ∈ WW := WW_of (List.mem_of_getElem? (i := 317) (by decide +kernel)) rfl
theorem mL_X2_87 : Cond.methodLink RX2 87 yX2_wiresThatAreOne ∈ WW := WW_of (List.mem_of_getElem? (i := 319) (by decide +kernel)) rfl
theorem yI_X2_wiresThatAreOne : Cond.instanceMethod yX2_wiresThatAreOne ∈ WW := WW_of (List.mem_of_getElem? (i := 321) (by decide +kernel)) rfl
theorem cd_X2_wiresThatAreOne : Cond.code yX2_wiresThatAreOne prog_1_method_27_code 4 (some .int) ∈ WW := WW_of (List.mem_of_getElem? (i := 322) (by decide +kernel)) rfl
theorem mL_X2_98 : Cond.methodLink RX2 98 yX2_isGate ∈ WW := WW_of (List.mem_of_getElem? (i := 323) (by decide +kernel)) rfl
theorem yI_X2_isGate : Cond.instanceMethod yX2_isGate ∈ WW := WW_of (List.mem_of_getElem? (i := 325) (by decide +kernel)) rfl
theorem cd_X2_isGate : Cond.code yX2_isGate prog_1_method_26_code 2 (some .boolean) ∈ WW := WW_of (List.mem_of_getElem? (i := 326) (by decide +kernel)) rfl
theorem mL_X2_162 : Cond.methodLink RX2 162 yX0_valueWhere ∈ WW := WW_of (List.mem_of_getElem? (i := 327) (by decide +kernel)) rfl
theorem yI_X0_valueWhere : Cond.instanceMethod yX0_valueWhere ∈ WW := WW_of (List.mem_of_getElem? (i := 328) (by decide +kernel)) rfl
theorem sl_X0_valueWhere : Cond.selects RX0 yX0_valueWhere yX0_valueWhere ∈ WW := WW_of (List.mem_of_getElem? (i := 329) (by decide +kernel)) rfl
theorem cd_X0_valueWhere : Cond.code yX0_valueWhere prog_2_method_3_code 2 (some .int) ∈ WW := WW_of (List.mem_of_getElem? (i := 330) (by decide +kernel)) rfl
theorem mL_X0_40 : Cond.methodLink RX0 40 yX0_literalWhere ∈ WW := WW_of (List.mem_of_getElem? (i := 331) (by decide +kernel)) rfl
theorem yS_X0_literalWhere : Cond.static yX0_literalWhere ∈ WW := WW_of (List.mem_of_getElem? (i := 332) (by decide +kernel)) rfl
theorem cd_X0_literalWhere : Cond.code yX0_literalWhere prog_2_method_8_code 2 (some .int) ∈ WW := WW_of (List.mem_of_getElem? (i := 333) (by decide +kernel)) rfl
theorem mL_L_91 : Cond.methodLink RL 91 yL_evaluate ∈ WW := WW_of (List.mem_of_getElem? (i := 334) (by decide +kernel)) rfl
theorem yS_L_evaluate : Cond.static yL_evaluate ∈ WW := WW_of (List.mem_of_getElem? (i := 335) (by decide +kernel)) rfl
theorem cd_L_evaluate : Cond.codeWith yL_evaluate method_7_code 4 (some .int) [(0, 8, 11, 19)] ∈ WW := WW_of (List.mem_of_getElem? (i := 336) (by decide +kernel)) rfl
theorem mL_L_29 : Cond.methodLink RL 29 yX2_evaluate ∈ WW := WW_of (List.mem_of_getElem? (i := 337) (by decide +kernel)) rfl
theorem yI_X2_evaluate : Cond.instanceMethod yX2_evaluate ∈ WW := WW_of (List.mem_of_getElem? (i := 338) (by decide +kernel)) rfl
theorem sl_X2_evaluate : Cond.selects RX2 yX2_evaluate yX2_evaluate ∈ WW := WW_of (List.mem_of_getElem? (i := 339) (by decide +kernel)) rfl
theorem cd_X2_evaluate : Cond.code yX2_evaluate prog_1_method_7_code 2 (some .long) ∈ WW := WW_of (List.mem_of_getElem? (i := 340) (by decide +kernel)) rfl
theorem mL_X2_90 : Cond.methodLink RX2 90 yX1_valueWhere ∈ WW := WW_of (List.mem_of_getElem? (i := 341) (by decide +kernel)) rfl
theorem yI_X1_valueWhere : Cond.instanceMethod yX1_valueWhere ∈ WW := WW_of (List.mem_of_getElem? (i := 342) (by decide +kernel)) rfl
theorem sl_X1_valueWhere : Cond.selects RX1 yX1_valueWhere yX1_valueWhere ∈ WW := WW_of (List.mem_of_getElem? (i := 343) (by decide +kernel)) rfl
theorem cd_X1_valueWhere : Cond.code yX1_valueWhere prog_3_method_10_code 5 (some .long) ∈ WW := WW_of (List.mem_of_getElem? (i := 344) (by decide +kernel)) rfl
theorem mL_L_94 : Cond.methodLink RL 94 yL_prove ∈ WW := WW_of (List.mem_of_getElem? (i := 345) (by decide +kernel)) rfl
theorem yS_L_prove : Cond.static yL_prove ∈ WW := WW_of (List.mem_of_getElem? (i := 346) (by decide +kernel)) rfl
theorem cd_L_prove : Cond.codeWith yL_prove method_8_code 3 (some .int) [(0, 8, 11, 36)] ∈ WW := WW_of (List.mem_of_getElem? (i := 347) (by decide +kernel)) rfl
theorem kL_L_36 : Cond.classLink RL 36 "java/lang/ArithmeticException" ∈ WW := WW_of (List.mem_of_getElem? (i := 348) (by decide +kernel)) rfl
theorem iT__java_lang_ArithmeticException : Cond.instantiable "java/lang/ArithmeticException" 6 ∈ WW := WW_of (List.mem_of_getElem? (i := 349) (by decide +kernel)) rfl
theorem iT_J0 : Cond.instantiable RJ0 4 ∈ WW := WW_of (List.mem_of_getElem? (i := 362) (by decide +kernel)) rfl
theorem mL_L_33 : Cond.methodLink RL 33 yX2_prove ∈ WW := WW_of (List.mem_of_getElem? (i := 367) (by decide +kernel)) rfl
theorem yI_X2_prove : Cond.instanceMethod yX2_prove ∈ WW := WW_of (List.mem_of_getElem? (i := 368) (by decide +kernel)) rfl
theorem sl_X2_prove : Cond.selects RX2 yX2_prove yX2_prove ∈ WW := WW_of (List.mem_of_getElem? (i := 369) (by decide +kernel)) rfl
theorem cd_X2_prove : Cond.code yX2_prove prog_1_method_8_code 3 (some .int) ∈ WW := WW_of (List.mem_of_getElem? (i := 370) (by decide +kernel)) rfl
theorem mL_X2_94 : Cond.methodLink RX2 94 yX1_becomeCopy ∈ WW := WW_of (List.mem_of_getElem? (i := 371) (by decide +kernel)) rfl
theorem yI_X1_becomeCopy : Cond.instanceMethod yX1_becomeCopy ∈ WW := WW_of (List.mem_of_getElem? (i := 372) (by decide +kernel)) rfl
theorem sl_X1_becomeCopy : Cond.selects RX1 yX1_becomeCopy yX1_becomeCopy ∈ WW := WW_of (List.mem_of_getElem? (i := 373) (by decide +kernel)) rfl
theorem cd_X1_becomeCopy : Cond.code yX1_becomeCopy prog_3_method_3_code 2 none ∈ WW := WW_of (List.mem_of_getElem? (i := 374) (by decide +kernel)) rfl
theorem mL_X1_25 : Cond.methodLink RX1 25 (⟨"java/lang/System", "arraycopy", "(Ljava/lang/Object;ILjava/lang/Object;II)V"⟩ : MethodName) ∈ WW := WW_of (List.mem_of_getElem? (i := 375) (by decide +kernel)) rfl
theorem yS_arraycopy : Cond.static (⟨"java/lang/System", "arraycopy", "(Ljava/lang/Object;ILjava/lang/Object;II)V"⟩ : MethodName) ∈ WW := WW_of (List.mem_of_getElem? (i := 376) (by decide +kernel)) rfl
theorem nA_arraycopy : Cond.native (⟨"java/lang/System", "arraycopy", "(Ljava/lang/Object;ILjava/lang/Object;II)V"⟩ : MethodName) ∈ WW := WW_of (List.mem_of_getElem? (i := 377) (by decide +kernel)) rfl
theorem mL_X2_101 : Cond.methodLink RX2 101 yX1_becomeElimination ∈ WW := WW_of (List.mem_of_getElem? (i := 378) (by decide +kernel)) rfl
theorem yI_X1_becomeElimination : Cond.instanceMethod yX1_becomeElimination ∈ WW := WW_of (List.mem_of_getElem? (i := 379) (by decide +kernel)) rfl
theorem sl_X1_becomeElimination : Cond.selects RX1 yX1_becomeElimination yX1_becomeElimination ∈ WW := WW_of (List.mem_of_getElem? (i := 380) (by decide +kernel)) rfl
theorem cd_X1_becomeElimination : Cond.code yX1_becomeElimination prog_3_method_4_code 7 none ∈ WW := WW_of (List.mem_of_getElem? (i := 381) (by decide +kernel)) rfl
theorem mL_X1_31 : Cond.methodLink RX1 31 yX1_erase ∈ WW := WW_of (List.mem_of_getElem? (i := 382) (by decide +kernel)) rfl
theorem mL_X1_34 : Cond.methodLink RX1 34 yX1_increase ∈ WW := WW_of (List.mem_of_getElem? (i := 383) (by decide +kernel)) rfl
theorem mL_X1_38 : Cond.methodLink RX1 38 yX0_addProduct ∈ WW := WW_of (List.mem_of_getElem? (i := 384) (by decide +kernel)) rfl
theorem yI_X0_addProduct : Cond.instanceMethod yX0_addProduct ∈ WW := WW_of (List.mem_of_getElem? (i := 385) (by decide +kernel)) rfl
theorem sl_X0_addProduct : Cond.selects RX0 yX0_addProduct yX0_addProduct ∈ WW := WW_of (List.mem_of_getElem? (i := 386) (by decide +kernel)) rfl
theorem cd_X0_addProduct : Cond.code yX0_addProduct prog_2_method_4_code 6 none ∈ WW := WW_of (List.mem_of_getElem? (i := 387) (by decide +kernel)) rfl
theorem mL_X0_48 : Cond.methodLink RX0 48 yX1_increase ∈ WW := WW_of (List.mem_of_getElem? (i := 388) (by decide +kernel)) rfl
theorem mL_X2_105 : Cond.methodLink RX2 105 yX1_monomialCount ∈ WW := WW_of (List.mem_of_getElem? (i := 389) (by decide +kernel)) rfl
theorem yI_X1_monomialCount : Cond.instanceMethod yX1_monomialCount ∈ WW := WW_of (List.mem_of_getElem? (i := 390) (by decide +kernel)) rfl
theorem sl_X1_monomialCount : Cond.selects RX1 yX1_monomialCount yX1_monomialCount ∈ WW := WW_of (List.mem_of_getElem? (i := 391) (by decide +kernel)) rfl
theorem cd_X1_monomialCount : Cond.code yX1_monomialCount prog_3_method_7_code 1 (some .int) ∈ WW := WW_of (List.mem_of_getElem? (i := 392) (by decide +kernel)) rfl
theorem kL_X2_108 : Cond.classLink RX2 108 "java/lang/ArithmeticException" ∈ WW := WW_of (List.mem_of_getElem? (i := 393) (by decide +kernel)) rfl
theorem mL_X2_112 : Cond.methodLink RX2 112 (⟨"java/lang/ArithmeticException", "<init>", "(Ljava/lang/String;)V"⟩ : MethodName) ∈ WW := WW_of (List.mem_of_getElem? (i := 395) (by decide +kernel)) rfl
theorem mL_L_101 : Cond.methodLink RL 101 yL_size ∈ WW := WW_of (List.mem_of_getElem? (i := 396) (by decide +kernel)) rfl
theorem yS_L_size : Cond.static yL_size ∈ WW := WW_of (List.mem_of_getElem? (i := 397) (by decide +kernel)) rfl
theorem cd_L_size : Cond.codeWith yL_size method_9_code 4 (some .int) [(0, 9, 12, 13), (0, 9, 15, 41)] ∈ WW := WW_of (List.mem_of_getElem? (i := 398) (by decide +kernel)) rfl
theorem kL_L_41 : Cond.classLink RL 41 "java/lang/IndexOutOfBoundsException" ∈ WW := WW_of (List.mem_of_getElem? (i := 399) (by decide +kernel)) rfl
theorem iT_Jx00060 : Cond.instantiable RJx00060 6 ∈ WW := WW_of (List.mem_of_getElem? (i := 400) (by decide +kernel)) rfl
theorem yI_Jx00060_init_a7421 : Cond.instanceMethod yJx00060_init_a7421 ∈ WW := WW_of (List.mem_of_getElem? (i := 401) (by decide +kernel)) rfl
theorem cd_Jx00060_init_a7421 : Cond.code yJx00060_init_a7421 prog_8_method_2_code 2 none ∈ WW := WW_of (List.mem_of_getElem? (i := 402) (by decide +kernel)) rfl
theorem mL_L_38 : Cond.methodLink RL 38 yX2_size ∈ WW := WW_of (List.mem_of_getElem? (i := 418) (by decide +kernel)) rfl
theorem yI_X2_size : Cond.instanceMethod yX2_size ∈ WW := WW_of (List.mem_of_getElem? (i := 419) (by decide +kernel)) rfl
theorem sl_X2_size : Cond.selects RX2 yX2_size yX2_size ∈ WW := WW_of (List.mem_of_getElem? (i := 420) (by decide +kernel)) rfl
theorem cd_X2_size : Cond.code yX2_size prog_1_method_10_code 2 (some .int) ∈ WW := WW_of (List.mem_of_getElem? (i := 421) (by decide +kernel)) rfl
theorem mL_X2_116 : Cond.methodLink RX2 116 yX2_lineAt ∈ WW := WW_of (List.mem_of_getElem? (i := 422) (by decide +kernel)) rfl
theorem yI_X2_lineAt : Cond.instanceMethod yX2_lineAt ∈ WW := WW_of (List.mem_of_getElem? (i := 424) (by decide +kernel)) rfl
theorem cd_X2_lineAt : Cond.code yX2_lineAt prog_1_method_23_code 2 (some (.object "GatePolynomials$Polynomial")) ∈ WW := WW_of (List.mem_of_getElem? (i := 425) (by decide +kernel)) rfl
theorem mL_X2_136 : Cond.methodLink RX2 136 yX2_refuseWithoutProof ∈ WW := WW_of (List.mem_of_getElem? (i := 426) (by decide +kernel)) rfl
theorem yI_X2_refuseWithoutProof : Cond.instanceMethod yX2_refuseWithoutProof ∈ WW := WW_of (List.mem_of_getElem? (i := 428) (by decide +kernel)) rfl
theorem cd_X2_refuseWithoutProof : Cond.code yX2_refuseWithoutProof prog_1_method_21_code 1 none ∈ WW := WW_of (List.mem_of_getElem? (i := 429) (by decide +kernel)) rfl
theorem kL_X2_120 : Cond.classLink RX2 120 "java/lang/IndexOutOfBoundsException" ∈ WW := WW_of (List.mem_of_getElem? (i := 431) (by decide +kernel)) rfl
theorem iT__java_lang_IndexOutOfBoundsException : Cond.instantiable "java/lang/IndexOutOfBoundsException" 6 ∈ WW := WW_of (List.mem_of_getElem? (i := 432) (by decide +kernel)) rfl
theorem mL_X2_124 : Cond.methodLink RX2 124 (⟨"java/lang/IndexOutOfBoundsException", "<init>", "(Ljava/lang/String;)V"⟩ : MethodName) ∈ WW := WW_of (List.mem_of_getElem? (i := 441) (by decide +kernel)) rfl
theorem mL_L_104 : Cond.methodLink RL 104 yL_monomial ∈ WW := WW_of (List.mem_of_getElem? (i := 444) (by decide +kernel)) rfl
theorem yS_L_monomial : Cond.static yL_monomial ∈ WW := WW_of (List.mem_of_getElem? (i := 445) (by decide +kernel)) rfl
theorem cd_L_monomial : Cond.codeWith yL_monomial method_10_code 5 (some .int) [(0, 10, 13, 13), (0, 10, 17, 41)] ∈ WW := WW_of (List.mem_of_getElem? (i := 446) (by decide +kernel)) rfl
theorem mL_L_43 : Cond.methodLink RL 43 yX2_monomial ∈ WW := WW_of (List.mem_of_getElem? (i := 447) (by decide +kernel)) rfl
theorem yI_X2_monomial : Cond.instanceMethod yX2_monomial ∈ WW := WW_of (List.mem_of_getElem? (i := 448) (by decide +kernel)) rfl
theorem sl_X2_monomial : Cond.selects RX2 yX2_monomial yX2_monomial ∈ WW := WW_of (List.mem_of_getElem? (i := 449) (by decide +kernel)) rfl
theorem cd_X2_monomial : Cond.code yX2_monomial prog_1_method_11_code 4 (some .int) ∈ WW := WW_of (List.mem_of_getElem? (i := 450) (by decide +kernel)) rfl
theorem mL_X2_125 : Cond.methodLink RX2 125 yX1_monomialAt ∈ WW := WW_of (List.mem_of_getElem? (i := 452) (by decide +kernel)) rfl
theorem yI_X1_monomialAt : Cond.instanceMethod yX1_monomialAt ∈ WW := WW_of (List.mem_of_getElem? (i := 453) (by decide +kernel)) rfl
theorem sl_X1_monomialAt : Cond.selects RX1 yX1_monomialAt yX1_monomialAt ∈ WW := WW_of (List.mem_of_getElem? (i := 454) (by decide +kernel)) rfl
theorem cd_X1_monomialAt : Cond.code yX1_monomialAt prog_3_method_8_code 4 (some .int) ∈ WW := WW_of (List.mem_of_getElem? (i := 455) (by decide +kernel)) rfl
theorem mL_L_107 : Cond.methodLink RL 107 yL_coefficient ∈ WW := WW_of (List.mem_of_getElem? (i := 456) (by decide +kernel)) rfl
theorem yS_L_coefficient : Cond.static yL_coefficient ∈ WW := WW_of (List.mem_of_getElem? (i := 457) (by decide +kernel)) rfl
theorem cd_L_coefficient : Cond.codeWith yL_coefficient method_11_code 5 (some .int) [(0, 9, 12, 13), (0, 9, 16, 41)] ∈ WW := WW_of (List.mem_of_getElem? (i := 458) (by decide +kernel)) rfl
theorem mL_L_46 : Cond.methodLink RL 46 yX2_coefficient ∈ WW := WW_of (List.mem_of_getElem? (i := 459) (by decide +kernel)) rfl
theorem yI_X2_coefficient : Cond.instanceMethod yX2_coefficient ∈ WW := WW_of (List.mem_of_getElem? (i := 460) (by decide +kernel)) rfl
theorem sl_X2_coefficient : Cond.selects RX2 yX2_coefficient yX2_coefficient ∈ WW := WW_of (List.mem_of_getElem? (i := 461) (by decide +kernel)) rfl
theorem cd_X2_coefficient : Cond.code yX2_coefficient prog_1_method_12_code 4 (some .long) ∈ WW := WW_of (List.mem_of_getElem? (i := 462) (by decide +kernel)) rfl
theorem mL_X2_128 : Cond.methodLink RX2 128 yX2_refuseSetOutside ∈ WW := WW_of (List.mem_of_getElem? (i := 463) (by decide +kernel)) rfl
theorem yI_X2_refuseSetOutside : Cond.instanceMethod yX2_refuseSetOutside ∈ WW := WW_of (List.mem_of_getElem? (i := 465) (by decide +kernel)) rfl
theorem cd_X2_refuseSetOutside : Cond.code yX2_refuseSetOutside prog_1_method_22_code 2 none ∈ WW := WW_of (List.mem_of_getElem? (i := 466) (by decide +kernel)) rfl
theorem mL_X2_131 : Cond.methodLink RX2 131 yX1_numberOf ∈ WW := WW_of (List.mem_of_getElem? (i := 467) (by decide +kernel)) rfl
theorem yI_X1_numberOf : Cond.instanceMethod yX1_numberOf ∈ WW := WW_of (List.mem_of_getElem? (i := 468) (by decide +kernel)) rfl
theorem sl_X1_numberOf : Cond.selects RX1 yX1_numberOf yX1_numberOf ∈ WW := WW_of (List.mem_of_getElem? (i := 469) (by decide +kernel)) rfl
theorem cd_X1_numberOf : Cond.code yX1_numberOf prog_3_method_6_code 2 (some .long) ∈ WW := WW_of (List.mem_of_getElem? (i := 470) (by decide +kernel)) rfl
theorem mL_L_110 : Cond.methodLink RL 110 yL_spoil ∈ WW := WW_of (List.mem_of_getElem? (i := 471) (by decide +kernel)) rfl
theorem yS_L_spoil : Cond.static yL_spoil ∈ WW := WW_of (List.mem_of_getElem? (i := 472) (by decide +kernel)) rfl
theorem cd_L_spoil : Cond.codeWith yL_spoil method_12_code 6 (some .int) [(0, 11, 14, 13), (0, 11, 18, 41), (0, 11, 22, 36)] ∈ WW := WW_of (List.mem_of_getElem? (i := 473) (by decide +kernel)) rfl
theorem mL_L_50 : Cond.methodLink RL 50 yX2_spoil ∈ WW := WW_of (List.mem_of_getElem? (i := 474) (by decide +kernel)) rfl
theorem yI_X2_spoil : Cond.instanceMethod yX2_spoil ∈ WW := WW_of (List.mem_of_getElem? (i := 475) (by decide +kernel)) rfl
theorem sl_X2_spoil : Cond.selects RX2 yX2_spoil yX2_spoil ∈ WW := WW_of (List.mem_of_getElem? (i := 476) (by decide +kernel)) rfl
theorem cd_X2_spoil : Cond.code yX2_spoil prog_1_method_13_code 6 (some .long) ∈ WW := WW_of (List.mem_of_getElem? (i := 477) (by decide +kernel)) rfl
theorem mL_L_114 : Cond.methodLink RL 114 yL_check ∈ WW := WW_of (List.mem_of_getElem? (i := 479) (by decide +kernel)) rfl
theorem yS_L_check : Cond.static yL_check ∈ WW := WW_of (List.mem_of_getElem? (i := 480) (by decide +kernel)) rfl
theorem cd_L_check : Cond.codeWith yL_check method_13_code 3 (some .int) [(0, 8, 11, 13)] ∈ WW := WW_of (List.mem_of_getElem? (i := 481) (by decide +kernel)) rfl
theorem mL_L_54 : Cond.methodLink RL 54 yX2_check ∈ WW := WW_of (List.mem_of_getElem? (i := 482) (by decide +kernel)) rfl
theorem yI_X2_check : Cond.instanceMethod yX2_check ∈ WW := WW_of (List.mem_of_getElem? (i := 483) (by decide +kernel)) rfl
theorem sl_X2_check : Cond.selects RX2 yX2_check yX2_check ∈ WW := WW_of (List.mem_of_getElem? (i := 484) (by decide +kernel)) rfl
theorem cd_X2_check : Cond.code yX2_check prog_1_method_14_code 3 (some .int) ∈ WW := WW_of (List.mem_of_getElem? (i := 485) (by decide +kernel)) rfl
theorem mL_X2_139 : Cond.methodLink RX2 139 yX1_isSameAs ∈ WW := WW_of (List.mem_of_getElem? (i := 486) (by decide +kernel)) rfl
theorem yI_X1_isSameAs : Cond.instanceMethod yX1_isSameAs ∈ WW := WW_of (List.mem_of_getElem? (i := 487) (by decide +kernel)) rfl
theorem sl_X1_isSameAs : Cond.selects RX1 yX1_isSameAs yX1_isSameAs ∈ WW := WW_of (List.mem_of_getElem? (i := 488) (by decide +kernel)) rfl
theorem cd_X1_isSameAs : Cond.code yX1_isSameAs prog_3_method_11_code 3 (some .boolean) ∈ WW := WW_of (List.mem_of_getElem? (i := 489) (by decide +kernel)) rfl
theorem mL_L_117 : Cond.methodLink RL 117 yL_witness ∈ WW := WW_of (List.mem_of_getElem? (i := 490) (by decide +kernel)) rfl
theorem yS_L_witness : Cond.static yL_witness ∈ WW := WW_of (List.mem_of_getElem? (i := 491) (by decide +kernel)) rfl
theorem cd_L_witness : Cond.codeWith yL_witness method_14_code 3 (some .int) [(0, 8, 11, 13), (0, 8, 14, 60)] ∈ WW := WW_of (List.mem_of_getElem? (i := 492) (by decide +kernel)) rfl
theorem kL_L_60 : Cond.classLink RL 60 "java/util/NoSuchElementException" ∈ WW := WW_of (List.mem_of_getElem? (i := 493) (by decide +kernel)) rfl
theorem mL_L_57 : Cond.methodLink RL 57 yX2_witness ∈ WW := WW_of (List.mem_of_getElem? (i := 494) (by decide +kernel)) rfl
theorem yI_X2_witness : Cond.instanceMethod yX2_witness ∈ WW := WW_of (List.mem_of_getElem? (i := 495) (by decide +kernel)) rfl
theorem sl_X2_witness : Cond.selects RX2 yX2_witness yX2_witness ∈ WW := WW_of (List.mem_of_getElem? (i := 496) (by decide +kernel)) rfl
theorem cd_X2_witness : Cond.code yX2_witness prog_1_method_15_code 2 (some .int) ∈ WW := WW_of (List.mem_of_getElem? (i := 497) (by decide +kernel)) rfl
theorem kL_X2_143 : Cond.classLink RX2 143 "java/util/NoSuchElementException" ∈ WW := WW_of (List.mem_of_getElem? (i := 498) (by decide +kernel)) rfl
theorem iT__java_util_NoSuchElementException : Cond.instantiable "java/util/NoSuchElementException" 6 ∈ WW := WW_of (List.mem_of_getElem? (i := 499) (by decide +kernel)) rfl
theorem mL_X2_147 : Cond.methodLink RX2 147 (⟨"java/util/NoSuchElementException", "<init>", "(Ljava/lang/String;)V"⟩ : MethodName) ∈ WW := WW_of (List.mem_of_getElem? (i := 508) (by decide +kernel)) rfl
theorem mL_X2_148 : Cond.methodLink RX2 148 yX1_leastMonomialOfFewestWires ∈ WW := WW_of (List.mem_of_getElem? (i := 514) (by decide +kernel)) rfl
theorem yI_X1_leastMonomialOfFewestWires : Cond.instanceMethod yX1_leastMonomialOfFewestWires ∈ WW := WW_of (List.mem_of_getElem? (i := 515) (by decide +kernel)) rfl
theorem sl_X1_leastMonomialOfFewestWires : Cond.selects RX1 yX1_leastMonomialOfFewestWires yX1_leastMonomialOfFewestWires ∈ WW := WW_of (List.mem_of_getElem? (i := 516) (by decide +kernel)) rfl
theorem cd_X1_leastMonomialOfFewestWires : Cond.code yX1_leastMonomialOfFewestWires prog_3_method_9_code 4 (some .int) ∈ WW := WW_of (List.mem_of_getElem? (i := 517) (by decide +kernel)) rfl
theorem mL_X1_44 : Cond.methodLink RX1 44 yJ6_bitCount_0f7a4 ∈ WW := WW_of (List.mem_of_getElem? (i := 518) (by decide +kernel)) rfl
theorem yS_J6_bitCount_0f7a4 : Cond.static yJ6_bitCount_0f7a4 ∈ WW := WW_of (List.mem_of_getElem? (i := 519) (by decide +kernel)) rfl
theorem cd_J6_bitCount_0f7a4 : Cond.code yJ6_bitCount_0f7a4 prog_13_method_49_code 1 (some .int) ∈ WW := WW_of (List.mem_of_getElem? (i := 520) (by decide +kernel)) rfl
theorem cN_J6_265 : Cond.constant RJ6 265 1431655765 ∈ WW := WW_of (List.mem_of_getElem? (i := 521) (by decide +kernel)) rfl
theorem cN_J6_266 : Cond.constant RJ6 266 858993459 ∈ WW := WW_of (List.mem_of_getElem? (i := 522) (by decide +kernel)) rfl
theorem cN_J6_267 : Cond.constant RJ6 267 252645135 ∈ WW := WW_of (List.mem_of_getElem? (i := 523) (by decide +kernel)) rfl
theorem kL_L_63 : Cond.classLink RL 63 "GatePolynomialsModel" ∈ WW := WW_of (List.mem_of_getElem? (i := 524) (by decide +kernel)) rfl
theorem iT_X3 : Cond.instantiable RX3 14 ∈ WW := WW_of (List.mem_of_getElem? (i := 525) (by decide +kernel)) rfl
theorem mL_L_65 : Cond.methodLink RL 65 yX3_init ∈ WW := WW_of (List.mem_of_getElem? (i := 526) (by decide +kernel)) rfl
theorem yI_X3_init : Cond.instanceMethod yX3_init ∈ WW := WW_of (List.mem_of_getElem? (i := 527) (by decide +kernel)) rfl
theorem cd_X3_init : Cond.code yX3_init prog_5_method_1_code 1 none ∈ WW := WW_of (List.mem_of_getElem? (i := 528) (by decide +kernel)) rfl
theorem mL_X3_1 : Cond.methodLink RX3 1 (⟨"java/lang/Object", "<init>", "()V"⟩ : MethodName) ∈ WW := WW_of (List.mem_of_getElem? (i := 529) (by decide +kernel)) rfl
theorem fL_X3_41 : Cond.fieldLink RX3 41 "GatePolynomialsModel" "thrown" "I" ∈ WW := WW_of (List.mem_of_getElem? (i := 530) (by decide +kernel)) rfl
theorem fL_X3_45 : Cond.fieldLink RX3 45 "GatePolynomialsModel" "wires" "I" ∈ WW := WW_of (List.mem_of_getElem? (i := 531) (by decide +kernel)) rfl
theorem fL_X3_7 : Cond.fieldLink RX3 7 "GatePolynomialsModel" "kind" "[I" ∈ WW := WW_of (List.mem_of_getElem? (i := 532) (by decide +kernel)) rfl
theorem fL_X3_13 : Cond.fieldLink RX3 13 "GatePolynomialsModel" "first" "[I" ∈ WW := WW_of (List.mem_of_getElem? (i := 533) (by decide +kernel)) rfl
theorem fL_X3_16 : Cond.fieldLink RX3 16 "GatePolynomialsModel" "second" "[I" ∈ WW := WW_of (List.mem_of_getElem? (i := 534) (by decide +kernel)) rfl
theorem fL_X3_19 : Cond.fieldLink RX3 19 "GatePolynomialsModel" "third" "[I" ∈ WW := WW_of (List.mem_of_getElem? (i := 535) (by decide +kernel)) rfl
theorem fL_X3_80 : Cond.fieldLink RX3 80 "GatePolynomialsModel" "added" "I" ∈ WW := WW_of (List.mem_of_getElem? (i := 536) (by decide +kernel)) rfl
theorem fL_X3_22 : Cond.fieldLink RX3 22 "GatePolynomialsModel" "claim" "[J" ∈ WW := WW_of (List.mem_of_getElem? (i := 537) (by decide +kernel)) rfl
theorem fL_X3_52 : Cond.fieldLink RX3 52 "GatePolynomialsModel" "lines" "I" ∈ WW := WW_of (List.mem_of_getElem? (i := 538) (by decide +kernel)) rfl
theorem fL_X3_26 : Cond.fieldLink RX3 26 "GatePolynomialsModel" "sizes" "[I" ∈ WW := WW_of (List.mem_of_getElem? (i := 539) (by decide +kernel)) rfl
theorem fL_X3_29 : Cond.fieldLink RX3 29 "GatePolynomialsModel" "sets" "[I" ∈ WW := WW_of (List.mem_of_getElem? (i := 540) (by decide +kernel)) rfl
theorem fL_X3_32 : Cond.fieldLink RX3 32 "GatePolynomialsModel" "numbers" "[J" ∈ WW := WW_of (List.mem_of_getElem? (i := 541) (by decide +kernel)) rfl
theorem fL_X3_35 : Cond.fieldLink RX3 35 "GatePolynomialsModel" "work" "[J" ∈ WW := WW_of (List.mem_of_getElem? (i := 542) (by decide +kernel)) rfl
theorem fL_X3_38 : Cond.fieldLink RX3 38 "GatePolynomialsModel" "from" "[J" ∈ WW := WW_of (List.mem_of_getElem? (i := 543) (by decide +kernel)) rfl
theorem mL_L_72 : Cond.methodLink RL 72 yX3_thrown ∈ WW := WW_of (List.mem_of_getElem? (i := 573) (by decide +kernel)) rfl
theorem yI_X3_thrown : Cond.instanceMethod yX3_thrown ∈ WW := WW_of (List.mem_of_getElem? (i := 574) (by decide +kernel)) rfl
theorem sl_X3_thrown : Cond.selects RX3 yX3_thrown yX3_thrown ∈ WW := WW_of (List.mem_of_getElem? (i := 575) (by decide +kernel)) rfl
theorem cd_X3_thrown : Cond.code yX3_thrown prog_5_method_2_code 1 (some .int) ∈ WW := WW_of (List.mem_of_getElem? (i := 576) (by decide +kernel)) rfl
theorem mL_L_71 : Cond.methodLink RL 71 yX3_input ∈ WW := WW_of (List.mem_of_getElem? (i := 577) (by decide +kernel)) rfl
theorem yI_X3_input : Cond.instanceMethod yX3_input ∈ WW := WW_of (List.mem_of_getElem? (i := 578) (by decide +kernel)) rfl
theorem sl_X3_input : Cond.selects RX3 yX3_input yX3_input ∈ WW := WW_of (List.mem_of_getElem? (i := 579) (by decide +kernel)) rfl
theorem cd_X3_input : Cond.code yX3_input prog_5_method_5_code 1 (some .int) ∈ WW := WW_of (List.mem_of_getElem? (i := 580) (by decide +kernel)) rfl
theorem mL_L_78 : Cond.methodLink RL 78 yX3_gate ∈ WW := WW_of (List.mem_of_getElem? (i := 581) (by decide +kernel)) rfl
theorem yI_X3_gate : Cond.instanceMethod yX3_gate ∈ WW := WW_of (List.mem_of_getElem? (i := 582) (by decide +kernel)) rfl
theorem sl_X3_gate : Cond.selects RX3 yX3_gate yX3_gate ∈ WW := WW_of (List.mem_of_getElem? (i := 583) (by decide +kernel)) rfl
theorem cd_X3_gate : Cond.code yX3_gate prog_5_method_7_code 6 (some .int) ∈ WW := WW_of (List.mem_of_getElem? (i := 584) (by decide +kernel)) rfl
theorem mL_X3_48 : Cond.methodLink RX3 48 yX3_within ∈ WW := WW_of (List.mem_of_getElem? (i := 585) (by decide +kernel)) rfl
theorem yS_X3_within : Cond.static yX3_within ∈ WW := WW_of (List.mem_of_getElem? (i := 586) (by decide +kernel)) rfl
theorem cd_X3_within : Cond.code yX3_within prog_5_method_3_code 3 (some .boolean) ∈ WW := WW_of (List.mem_of_getElem? (i := 587) (by decide +kernel)) rfl
theorem mL_X3_55 : Cond.methodLink RX3 55 yX3_isLiteral ∈ WW := WW_of (List.mem_of_getElem? (i := 588) (by decide +kernel)) rfl
theorem yI_X3_isLiteral : Cond.instanceMethod yX3_isLiteral ∈ WW := WW_of (List.mem_of_getElem? (i := 590) (by decide +kernel)) rfl
theorem cd_X3_isLiteral : Cond.code yX3_isLiteral prog_5_method_6_code 2 (some .boolean) ∈ WW := WW_of (List.mem_of_getElem? (i := 591) (by decide +kernel)) rfl
theorem mL_L_82 : Cond.methodLink RL 82 yX3_wires ∈ WW := WW_of (List.mem_of_getElem? (i := 592) (by decide +kernel)) rfl
theorem yI_X3_wires : Cond.instanceMethod yX3_wires ∈ WW := WW_of (List.mem_of_getElem? (i := 593) (by decide +kernel)) rfl
theorem sl_X3_wires : Cond.selects RX3 yX3_wires yX3_wires ∈ WW := WW_of (List.mem_of_getElem? (i := 594) (by decide +kernel)) rfl
theorem cd_X3_wires : Cond.code yX3_wires prog_5_method_8_code 1 (some .int) ∈ WW := WW_of (List.mem_of_getElem? (i := 595) (by decide +kernel)) rfl
theorem mL_L_90 : Cond.methodLink RL 90 yX3_simulate ∈ WW := WW_of (List.mem_of_getElem? (i := 596) (by decide +kernel)) rfl
theorem yI_X3_simulate : Cond.instanceMethod yX3_simulate ∈ WW := WW_of (List.mem_of_getElem? (i := 597) (by decide +kernel)) rfl
theorem sl_X3_simulate : Cond.selects RX3 yX3_simulate yX3_simulate ∈ WW := WW_of (List.mem_of_getElem? (i := 598) (by decide +kernel)) rfl
theorem cd_X3_simulate : Cond.code yX3_simulate prog_5_method_13_code 2 (some .int) ∈ WW := WW_of (List.mem_of_getElem? (i := 599) (by decide +kernel)) rfl
theorem mL_X3_69 : Cond.methodLink RX3 69 yX3_areInputs ∈ WW := WW_of (List.mem_of_getElem? (i := 600) (by decide +kernel)) rfl
theorem yI_X3_areInputs : Cond.instanceMethod yX3_areInputs ∈ WW := WW_of (List.mem_of_getElem? (i := 602) (by decide +kernel)) rfl
theorem cd_X3_areInputs : Cond.code yX3_areInputs prog_5_method_11_code 4 (some .boolean) ∈ WW := WW_of (List.mem_of_getElem? (i := 603) (by decide +kernel)) rfl
theorem mL_X3_63 : Cond.methodLink RX3 63 yX3_isSet ∈ WW := WW_of (List.mem_of_getElem? (i := 604) (by decide +kernel)) rfl
theorem yI_X3_isSet : Cond.instanceMethod yX3_isSet ∈ WW := WW_of (List.mem_of_getElem? (i := 606) (by decide +kernel)) rfl
theorem cd_X3_isSet : Cond.code yX3_isSet prog_5_method_4_code 2 (some .boolean) ∈ WW := WW_of (List.mem_of_getElem? (i := 607) (by decide +kernel)) rfl
theorem mL_X3_72 : Cond.methodLink RX3 72 yX3_settled ∈ WW := WW_of (List.mem_of_getElem? (i := 608) (by decide +kernel)) rfl
theorem yI_X3_settled : Cond.instanceMethod yX3_settled ∈ WW := WW_of (List.mem_of_getElem? (i := 610) (by decide +kernel)) rfl
theorem cd_X3_settled : Cond.code yX3_settled prog_5_method_12_code 4 (some .int) ∈ WW := WW_of (List.mem_of_getElem? (i := 611) (by decide +kernel)) rfl
theorem mL_X3_66 : Cond.methodLink RX3 66 yX3_made ∈ WW := WW_of (List.mem_of_getElem? (i := 612) (by decide +kernel)) rfl
theorem yI_X3_made : Cond.instanceMethod yX3_made ∈ WW := WW_of (List.mem_of_getElem? (i := 614) (by decide +kernel)) rfl
theorem cd_X3_made : Cond.code yX3_made prog_5_method_10_code 6 (some .int) ∈ WW := WW_of (List.mem_of_getElem? (i := 615) (by decide +kernel)) rfl
theorem mL_X3_59 : Cond.methodLink RX3 59 yX3_literal ∈ WW := WW_of (List.mem_of_getElem? (i := 616) (by decide +kernel)) rfl
theorem yS_X3_literal : Cond.static yX3_literal ∈ WW := WW_of (List.mem_of_getElem? (i := 617) (by decide +kernel)) rfl
theorem cd_X3_literal : Cond.code yX3_literal prog_5_method_9_code 3 (some .int) ∈ WW := WW_of (List.mem_of_getElem? (i := 618) (by decide +kernel)) rfl
theorem mL_L_93 : Cond.methodLink RL 93 yX3_evaluate ∈ WW := WW_of (List.mem_of_getElem? (i := 619) (by decide +kernel)) rfl
theorem yI_X3_evaluate : Cond.instanceMethod yX3_evaluate ∈ WW := WW_of (List.mem_of_getElem? (i := 620) (by decide +kernel)) rfl
theorem sl_X3_evaluate : Cond.selects RX3 yX3_evaluate yX3_evaluate ∈ WW := WW_of (List.mem_of_getElem? (i := 621) (by decide +kernel)) rfl
theorem cd_X3_evaluate : Cond.code yX3_evaluate prog_5_method_15_code 2 (some .long) ∈ WW := WW_of (List.mem_of_getElem? (i := 622) (by decide +kernel)) rfl
theorem mL_X3_76 : Cond.methodLink RX3 76 yX3_claimed ∈ WW := WW_of (List.mem_of_getElem? (i := 623) (by decide +kernel)) rfl
theorem yI_X3_claimed : Cond.instanceMethod yX3_claimed ∈ WW := WW_of (List.mem_of_getElem? (i := 625) (by decide +kernel)) rfl
theorem cd_X3_claimed : Cond.code yX3_claimed prog_5_method_14_code 5 (some .long) ∈ WW := WW_of (List.mem_of_getElem? (i := 626) (by decide +kernel)) rfl
theorem mL_L_86 : Cond.methodLink RL 86 yX3_add ∈ WW := WW_of (List.mem_of_getElem? (i := 627) (by decide +kernel)) rfl
theorem yI_X3_add : Cond.instanceMethod yX3_add ∈ WW := WW_of (List.mem_of_getElem? (i := 628) (by decide +kernel)) rfl
theorem sl_X3_add : Cond.selects RX3 yX3_add yX3_add ∈ WW := WW_of (List.mem_of_getElem? (i := 629) (by decide +kernel)) rfl
theorem cd_X3_add : Cond.code yX3_add prog_5_method_16_code 3 (some .int) ∈ WW := WW_of (List.mem_of_getElem? (i := 630) (by decide +kernel)) rfl
theorem mL_L_96 : Cond.methodLink RL 96 yX3_prove ∈ WW := WW_of (List.mem_of_getElem? (i := 631) (by decide +kernel)) rfl
theorem yI_X3_prove : Cond.instanceMethod yX3_prove ∈ WW := WW_of (List.mem_of_getElem? (i := 632) (by decide +kernel)) rfl
theorem sl_X3_prove : Cond.selects RX3 yX3_prove yX3_prove ∈ WW := WW_of (List.mem_of_getElem? (i := 633) (by decide +kernel)) rfl
theorem cd_X3_prove : Cond.code yX3_prove prog_5_method_27_code 1 (some .int) ∈ WW := WW_of (List.mem_of_getElem? (i := 634) (by decide +kernel)) rfl
theorem mL_X3_106 : Cond.methodLink RX3 106 yX3_derived ∈ WW := WW_of (List.mem_of_getElem? (i := 635) (by decide +kernel)) rfl
theorem yI_X3_derived : Cond.instanceMethod yX3_derived ∈ WW := WW_of (List.mem_of_getElem? (i := 637) (by decide +kernel)) rfl
theorem cd_X3_derived : Cond.code yX3_derived prog_5_method_26_code 3 (some .boolean) ∈ WW := WW_of (List.mem_of_getElem? (i := 638) (by decide +kernel)) rfl
theorem mL_X3_93 : Cond.methodLink RX3 93 yX3_gates ∈ WW := WW_of (List.mem_of_getElem? (i := 639) (by decide +kernel)) rfl
theorem yI_X3_gates : Cond.instanceMethod yX3_gates ∈ WW := WW_of (List.mem_of_getElem? (i := 641) (by decide +kernel)) rfl
theorem cd_X3_gates : Cond.code yX3_gates prog_5_method_23_code 3 (some .int) ∈ WW := WW_of (List.mem_of_getElem? (i := 642) (by decide +kernel)) rfl
theorem mL_X3_96 : Cond.methodLink RX3 96 yX3_gateWire ∈ WW := WW_of (List.mem_of_getElem? (i := 643) (by decide +kernel)) rfl
theorem yI_X3_gateWire : Cond.instanceMethod yX3_gateWire ∈ WW := WW_of (List.mem_of_getElem? (i := 645) (by decide +kernel)) rfl
theorem cd_X3_gateWire : Cond.code yX3_gateWire prog_5_method_22_code 4 (some .int) ∈ WW := WW_of (List.mem_of_getElem? (i := 646) (by decide +kernel)) rfl
theorem mL_X3_99 : Cond.methodLink RX3 99 yX3_eliminated ∈ WW := WW_of (List.mem_of_getElem? (i := 647) (by decide +kernel)) rfl
theorem yI_X3_eliminated : Cond.instanceMethod yX3_eliminated ∈ WW := WW_of (List.mem_of_getElem? (i := 649) (by decide +kernel)) rfl
theorem cd_X3_eliminated : Cond.code yX3_eliminated prog_5_method_25_code 3 (some .int) ∈ WW := WW_of (List.mem_of_getElem? (i := 650) (by decide +kernel)) rfl
theorem mL_X3_86 : Cond.methodLink RX3 86 yX3_redirected ∈ WW := WW_of (List.mem_of_getElem? (i := 651) (by decide +kernel)) rfl
theorem yI_X3_redirected : Cond.instanceMethod yX3_redirected ∈ WW := WW_of (List.mem_of_getElem? (i := 653) (by decide +kernel)) rfl
theorem cd_X3_redirected : Cond.code yX3_redirected prog_5_method_21_code 4 (some .int) ∈ WW := WW_of (List.mem_of_getElem? (i := 654) (by decide +kernel)) rfl
theorem mL_X3_89 : Cond.methodLink RX3 89 yX3_coefficients ∈ WW := WW_of (List.mem_of_getElem? (i := 655) (by decide +kernel)) rfl
theorem yI_X3_coefficients : Cond.instanceMethod yX3_coefficients ∈ WW := WW_of (List.mem_of_getElem? (i := 657) (by decide +kernel)) rfl
theorem cd_X3_coefficients : Cond.code yX3_coefficients prog_5_method_17_code 4 (some .int) ∈ WW := WW_of (List.mem_of_getElem? (i := 658) (by decide +kernel)) rfl
theorem mL_X3_102 : Cond.methodLink RX3 102 yX3_keep ∈ WW := WW_of (List.mem_of_getElem? (i := 659) (by decide +kernel)) rfl
theorem yI_X3_keep : Cond.instanceMethod yX3_keep ∈ WW := WW_of (List.mem_of_getElem? (i := 661) (by decide +kernel)) rfl
theorem cd_X3_keep : Cond.code yX3_keep prog_5_method_24_code 3 none ∈ WW := WW_of (List.mem_of_getElem? (i := 662) (by decide +kernel)) rfl
theorem mL_L_100 : Cond.methodLink RL 100 yX3_lines ∈ WW := WW_of (List.mem_of_getElem? (i := 663) (by decide +kernel)) rfl
theorem yI_X3_lines : Cond.instanceMethod yX3_lines ∈ WW := WW_of (List.mem_of_getElem? (i := 664) (by decide +kernel)) rfl
theorem sl_X3_lines : Cond.selects RX3 yX3_lines yX3_lines ∈ WW := WW_of (List.mem_of_getElem? (i := 665) (by decide +kernel)) rfl
theorem cd_X3_lines : Cond.code yX3_lines prog_5_method_28_code 1 (some .int) ∈ WW := WW_of (List.mem_of_getElem? (i := 666) (by decide +kernel)) rfl
theorem mL_L_103 : Cond.methodLink RL 103 yX3_size ∈ WW := WW_of (List.mem_of_getElem? (i := 667) (by decide +kernel)) rfl
theorem yI_X3_size : Cond.instanceMethod yX3_size ∈ WW := WW_of (List.mem_of_getElem? (i := 668) (by decide +kernel)) rfl
theorem sl_X3_size : Cond.selects RX3 yX3_size yX3_size ∈ WW := WW_of (List.mem_of_getElem? (i := 669) (by decide +kernel)) rfl
theorem cd_X3_size : Cond.code yX3_size prog_5_method_30_code 2 (some .int) ∈ WW := WW_of (List.mem_of_getElem? (i := 670) (by decide +kernel)) rfl
theorem mL_X3_110 : Cond.methodLink RX3 110 yX3_lack ∈ WW := WW_of (List.mem_of_getElem? (i := 671) (by decide +kernel)) rfl
theorem yI_X3_lack : Cond.instanceMethod yX3_lack ∈ WW := WW_of (List.mem_of_getElem? (i := 673) (by decide +kernel)) rfl
theorem cd_X3_lack : Cond.code yX3_lack prog_5_method_29_code 2 (some .int) ∈ WW := WW_of (List.mem_of_getElem? (i := 674) (by decide +kernel)) rfl
theorem mL_L_106 : Cond.methodLink RL 106 yX3_monomial ∈ WW := WW_of (List.mem_of_getElem? (i := 675) (by decide +kernel)) rfl
theorem yI_X3_monomial : Cond.instanceMethod yX3_monomial ∈ WW := WW_of (List.mem_of_getElem? (i := 676) (by decide +kernel)) rfl
theorem sl_X3_monomial : Cond.selects RX3 yX3_monomial yX3_monomial ∈ WW := WW_of (List.mem_of_getElem? (i := 677) (by decide +kernel)) rfl
theorem cd_X3_monomial : Cond.code yX3_monomial prog_5_method_31_code 5 (some .int) ∈ WW := WW_of (List.mem_of_getElem? (i := 678) (by decide +kernel)) rfl
theorem mL_X3_83 : Cond.methodLink RX3 83 yX3_find ∈ WW := WW_of (List.mem_of_getElem? (i := 679) (by decide +kernel)) rfl
theorem yI_X3_find : Cond.instanceMethod yX3_find ∈ WW := WW_of (List.mem_of_getElem? (i := 681) (by decide +kernel)) rfl
theorem cd_X3_find : Cond.code yX3_find prog_5_method_18_code 4 (some .int) ∈ WW := WW_of (List.mem_of_getElem? (i := 682) (by decide +kernel)) rfl
theorem mL_L_109 : Cond.methodLink RL 109 yX3_coefficient ∈ WW := WW_of (List.mem_of_getElem? (i := 683) (by decide +kernel)) rfl
theorem yI_X3_coefficient : Cond.instanceMethod yX3_coefficient ∈ WW := WW_of (List.mem_of_getElem? (i := 684) (by decide +kernel)) rfl
theorem sl_X3_coefficient : Cond.selects RX3 yX3_coefficient yX3_coefficient ∈ WW := WW_of (List.mem_of_getElem? (i := 685) (by decide +kernel)) rfl
theorem cd_X3_coefficient : Cond.code yX3_coefficient prog_5_method_32_code 3 (some .long) ∈ WW := WW_of (List.mem_of_getElem? (i := 686) (by decide +kernel)) rfl
theorem mL_X3_113 : Cond.methodLink RX3 113 yX3_has ∈ WW := WW_of (List.mem_of_getElem? (i := 687) (by decide +kernel)) rfl
theorem yI_X3_has : Cond.instanceMethod yX3_has ∈ WW := WW_of (List.mem_of_getElem? (i := 689) (by decide +kernel)) rfl
theorem cd_X3_has : Cond.code yX3_has prog_5_method_19_code 4 (some .long) ∈ WW := WW_of (List.mem_of_getElem? (i := 690) (by decide +kernel)) rfl
theorem mL_L_113 : Cond.methodLink RL 113 yX3_spoil ∈ WW := WW_of (List.mem_of_getElem? (i := 691) (by decide +kernel)) rfl
theorem yI_X3_spoil : Cond.instanceMethod yX3_spoil ∈ WW := WW_of (List.mem_of_getElem? (i := 692) (by decide +kernel)) rfl
theorem sl_X3_spoil : Cond.selects RX3 yX3_spoil yX3_spoil ∈ WW := WW_of (List.mem_of_getElem? (i := 693) (by decide +kernel)) rfl
theorem cd_X3_spoil : Cond.code yX3_spoil prog_5_method_33_code 7 (some .long) ∈ WW := WW_of (List.mem_of_getElem? (i := 694) (by decide +kernel)) rfl
theorem mL_L_116 : Cond.methodLink RL 116 yX3_check ∈ WW := WW_of (List.mem_of_getElem? (i := 695) (by decide +kernel)) rfl
theorem yI_X3_check : Cond.instanceMethod yX3_check ∈ WW := WW_of (List.mem_of_getElem? (i := 696) (by decide +kernel)) rfl
theorem sl_X3_check : Cond.selects RX3 yX3_check yX3_check ∈ WW := WW_of (List.mem_of_getElem? (i := 697) (by decide +kernel)) rfl
theorem cd_X3_check : Cond.code yX3_check prog_5_method_35_code 2 (some .int) ∈ WW := WW_of (List.mem_of_getElem? (i := 698) (by decide +kernel)) rfl
theorem mL_X3_120 : Cond.methodLink RX3 120 yX3_right ∈ WW := WW_of (List.mem_of_getElem? (i := 699) (by decide +kernel)) rfl
theorem yI_X3_right : Cond.instanceMethod yX3_right ∈ WW := WW_of (List.mem_of_getElem? (i := 701) (by decide +kernel)) rfl
theorem cd_X3_right : Cond.code yX3_right prog_5_method_34_code 4 (some .boolean) ∈ WW := WW_of (List.mem_of_getElem? (i := 702) (by decide +kernel)) rfl
theorem mL_X3_117 : Cond.methodLink RX3 117 yX3_values ∈ WW := WW_of (List.mem_of_getElem? (i := 703) (by decide +kernel)) rfl
theorem yI_X3_values : Cond.instanceMethod yX3_values ∈ WW := WW_of (List.mem_of_getElem? (i := 705) (by decide +kernel)) rfl
theorem cd_X3_values : Cond.code yX3_values prog_5_method_20_code 4 none ∈ WW := WW_of (List.mem_of_getElem? (i := 706) (by decide +kernel)) rfl
theorem mL_L_119 : Cond.methodLink RL 119 yX3_witness ∈ WW := WW_of (List.mem_of_getElem? (i := 707) (by decide +kernel)) rfl
theorem yI_X3_witness : Cond.instanceMethod yX3_witness ∈ WW := WW_of (List.mem_of_getElem? (i := 708) (by decide +kernel)) rfl
theorem sl_X3_witness : Cond.selects RX3 yX3_witness yX3_witness ∈ WW := WW_of (List.mem_of_getElem? (i := 709) (by decide +kernel)) rfl
theorem cd_X3_witness : Cond.code yX3_witness prog_5_method_37_code 3 (some .int) ∈ WW := WW_of (List.mem_of_getElem? (i := 710) (by decide +kernel)) rfl
theorem mL_X3_123 : Cond.methodLink RX3 123 yX3_many ∈ WW := WW_of (List.mem_of_getElem? (i := 711) (by decide +kernel)) rfl
theorem yS_X3_many : Cond.static yX3_many ∈ WW := WW_of (List.mem_of_getElem? (i := 712) (by decide +kernel)) rfl
theorem cd_X3_many : Cond.code yX3_many prog_5_method_36_code 3 (some .int) ∈ WW := WW_of (List.mem_of_getElem? (i := 713) (by decide +kernel)) rfl
theorem mL_L_123 : Cond.methodLink RL 123 yX3_clear ∈ WW := WW_of (List.mem_of_getElem? (i := 714) (by decide +kernel)) rfl
theorem yI_X3_clear : Cond.instanceMethod yX3_clear ∈ WW := WW_of (List.mem_of_getElem? (i := 715) (by decide +kernel)) rfl
theorem sl_X3_clear : Cond.selects RX3 yX3_clear yX3_clear ∈ WW := WW_of (List.mem_of_getElem? (i := 716) (by decide +kernel)) rfl
theorem cd_X3_clear : Cond.code yX3_clear prog_5_method_38_code 3 (some .int) ∈ WW := WW_of (List.mem_of_getElem? (i := 717) (by decide +kernel)) rfl
theorem sl_X2_dropProof : Cond.selects RX2 yX2_dropProof yX2_dropProof ∈ WW := WW_of (List.mem_of_getElem? (i := 0) (by decide +kernel)) rfl
theorem sl_X2_refuseTenthWire : Cond.selects RX2 yX2_refuseTenthWire yX2_refuseTenthWire ∈ WW := WW_of (List.mem_of_getElem? (i := 1) (by decide +kernel)) rfl
theorem sl_X2_countNewWire : Cond.selects RX2 yX2_countNewWire yX2_countNewWire ∈ WW := WW_of (List.mem_of_getElem? (i := 3) (by decide +kernel)) rfl
theorem sl_X2_isLiteral : Cond.selects RX2 yX2_isLiteral yX2_isLiteral ∈ WW := WW_of (List.mem_of_getElem? (i := 4) (by decide +kernel)) rfl
theorem sl_X0_setTermToValue : Cond.selects RX0 yX0_setTermToValue yX0_setTermToValue ∈ WW := WW_of (List.mem_of_getElem? (i := 5) (by decide +kernel)) rfl
theorem sl_X0_outcome : Cond.selects RX0 yX0_outcome yX0_outcome ∈ WW := WW_of (List.mem_of_getElem? (i := 6) (by decide +kernel)) rfl
theorem sl_X0_turnValuesToNumbers : Cond.selects RX0 yX0_turnValuesToNumbers yX0_turnValuesToNumbers ∈ WW := WW_of (List.mem_of_getElem? (i := 7) (by decide +kernel)) rfl
theorem sl_X2_isSet : Cond.selects RX2 yX2_isSet yX2_isSet ∈ WW := WW_of (List.mem_of_getElem? (i := 8) (by decide +kernel)) rfl
theorem sl_X2_refuseOtherThanInputs : Cond.selects RX2 yX2_refuseOtherThanInputs yX2_refuseOtherThanInputs ∈ WW := WW_of (List.mem_of_getElem? (i := 9) (by decide +kernel)) rfl
theorem sl_X2_wiresThatAreOne : Cond.selects RX2 yX2_wiresThatAreOne yX2_wiresThatAreOne ∈ WW := WW_of (List.mem_of_getElem? (i := 10) (by decide +kernel)) rfl
theorem sl_X2_isGate : Cond.selects RX2 yX2_isGate yX2_isGate ∈ WW := WW_of (List.mem_of_getElem? (i := 11) (by decide +kernel)) rfl
theorem sl_X2_lineAt : Cond.selects RX2 yX2_lineAt yX2_lineAt ∈ WW := WW_of (List.mem_of_getElem? (i := 12) (by decide +kernel)) rfl
theorem sl_X2_refuseWithoutProof : Cond.selects RX2 yX2_refuseWithoutProof yX2_refuseWithoutProof ∈ WW := WW_of (List.mem_of_getElem? (i := 13) (by decide +kernel)) rfl
theorem sl_X2_refuseSetOutside : Cond.selects RX2 yX2_refuseSetOutside yX2_refuseSetOutside ∈ WW := WW_of (List.mem_of_getElem? (i := 14) (by decide +kernel)) rfl
theorem sl_X3_isLiteral : Cond.selects RX3 yX3_isLiteral yX3_isLiteral ∈ WW := WW_of (List.mem_of_getElem? (i := 15) (by decide +kernel)) rfl
theorem sl_X3_areInputs : Cond.selects RX3 yX3_areInputs yX3_areInputs ∈ WW := WW_of (List.mem_of_getElem? (i := 16) (by decide +kernel)) rfl
theorem sl_X3_isSet : Cond.selects RX3 yX3_isSet yX3_isSet ∈ WW := WW_of (List.mem_of_getElem? (i := 17) (by decide +kernel)) rfl
theorem sl_X3_settled : Cond.selects RX3 yX3_settled yX3_settled ∈ WW := WW_of (List.mem_of_getElem? (i := 18) (by decide +kernel)) rfl
theorem sl_X3_made : Cond.selects RX3 yX3_made yX3_made ∈ WW := WW_of (List.mem_of_getElem? (i := 19) (by decide +kernel)) rfl
theorem sl_X3_claimed : Cond.selects RX3 yX3_claimed yX3_claimed ∈ WW := WW_of (List.mem_of_getElem? (i := 20) (by decide +kernel)) rfl
theorem sl_X3_derived : Cond.selects RX3 yX3_derived yX3_derived ∈ WW := WW_of (List.mem_of_getElem? (i := 21) (by decide +kernel)) rfl
theorem sl_X3_gates : Cond.selects RX3 yX3_gates yX3_gates ∈ WW := WW_of (List.mem_of_getElem? (i := 22) (by decide +kernel)) rfl
theorem sl_X3_gateWire : Cond.selects RX3 yX3_gateWire yX3_gateWire ∈ WW := WW_of (List.mem_of_getElem? (i := 23) (by decide +kernel)) rfl
theorem sl_X3_eliminated : Cond.selects RX3 yX3_eliminated yX3_eliminated ∈ WW := WW_of (List.mem_of_getElem? (i := 24) (by decide +kernel)) rfl
theorem sl_X3_redirected : Cond.selects RX3 yX3_redirected yX3_redirected ∈ WW := WW_of (List.mem_of_getElem? (i := 25) (by decide +kernel)) rfl
theorem sl_X3_coefficients : Cond.selects RX3 yX3_coefficients yX3_coefficients ∈ WW := WW_of (List.mem_of_getElem? (i := 26) (by decide +kernel)) rfl
theorem sl_X3_keep : Cond.selects RX3 yX3_keep yX3_keep ∈ WW := WW_of (List.mem_of_getElem? (i := 27) (by decide +kernel)) rfl
theorem sl_X3_lack : Cond.selects RX3 yX3_lack yX3_lack ∈ WW := WW_of (List.mem_of_getElem? (i := 28) (by decide +kernel)) rfl
theorem sl_X3_find : Cond.selects RX3 yX3_find yX3_find ∈ WW := WW_of (List.mem_of_getElem? (i := 29) (by decide +kernel)) rfl
theorem sl_X3_has : Cond.selects RX3 yX3_has yX3_has ∈ WW := WW_of (List.mem_of_getElem? (i := 30) (by decide +kernel)) rfl
theorem sl_X3_right : Cond.selects RX3 yX3_right yX3_right ∈ WW := WW_of (List.mem_of_getElem? (i := 31) (by decide +kernel)) rfl
theorem sl_X3_values : Cond.selects RX3 yX3_values yX3_values ∈ WW := WW_of (List.mem_of_getElem? (i := 32) (by decide +kernel)) rfl
theorem uw_0 : ∀ w ∈ u_ws RX0 TX0 6, w ∈ WW := fun w h => WW_of ((by decide +kernel : ∀ w ∈ u_ws RX0 TX0 6, w ∈ lw_tbl) w h) ((by decide +kernel : ∀ w ∈ u_ws RX0 TX0 6, goodWord w = true) w h)
theorem uw_1 : ∀ w ∈ u_ws RX1 TX1 2, w ∈ WW := fun w h => WW_of ((by decide +kernel : ∀ w ∈ u_ws RX1 TX1 2, w ∈ lw_tbl) w h) ((by decide +kernel : ∀ w ∈ u_ws RX1 TX1 2, goodWord w = true) w h)
theorem uw_2 : ∀ w ∈ u_ws RX2 TX2 8, w ∈ WW := fun w h => WW_of ((by decide +kernel : ∀ w ∈ u_ws RX2 TX2 8, w ∈ lw_tbl) w h) ((by decide +kernel : ∀ w ∈ u_ws RX2 TX2 8, goodWord w = true) w h)
theorem uw_3 : ∀ w ∈ u_ws RX3 TX3 14, w ∈ WW := fun w h => WW_of ((by decide +kernel : ∀ w ∈ u_ws RX3 TX3 14, w ∈ lw_tbl) w h) ((by decide +kernel : ∀ w ∈ u_ws RX3 TX3 14, goodWord w = true) w h)
end
section
/-! THE LAYER: a world is a list L of keys; the cell of key k lies at address ad k and holds hp k, whose references are keys; locals and stack hold keys too.
G is W over all heaps that hold the world; runs of plain instructions go in one row (g_run), by computing. -/
abbrev KE : Type := (Nat × vp_A) ⊕ (Nat × List Value)
def em (ad : Nat → Nat) (v : Value) : Value := match v with
  | .ref k => .ref (ad k)
  | w => w
def emQ (ad : Nat → Nat) (x : vp_A) : vp_A := match x with
  | (n, .inr (.inr (.inr (.inr f)))) => (n, .inr (.inr (.inr (.inr (fun j => (f j).map ad)))))
  | y => y
def emE (dA ad : Nat → Nat) (x : KE) : va_E := match x with
  | .inl (t, a) => .inl (dA t, emQ ad a)
  | .inr (ci, fs) => .inr (ci, fs.map (em ad))
abbrev kO (ci : Nat) (fs : List Value) : KE := .inr (ci, fs)
abbrev kI (n : Nat) (f : Nat → Int32) : KE := .inl (0, n, .inl f)
abbrev kJ (n : Nat) (f : Nat → Int64) : KE := .inl (1, n, .inr (.inl f))
abbrev kQ (t n : Nat) (f : Nat → Option Nat) : KE := .inl (t, n, .inr (.inr (.inr (.inr f))))
def kw (dA ad : Nat → Nat) (L : List Nat) (hp : Nat → KE) : va_W := L.map fun k => (ad k, emE dA ad (hp k))
def tysW (dA : Nat → Nat) : List (ClassId × FieldType) := [(dA 0, .int), (dA 1, .long), (dA 2, .object RX0), (dA 3, .object RX1)]
theorem em_cat (ad : Nat → Nat) (v : Value) : (em ad v).category = v.category := by cases v <;> rfl
theorem kw_get {dA ad : Nat → Nat} {L : List Nat} {hp : Nat → KE} {k : Nat} (h : k ∈ L) : ∃ i : Nat, (kw dA ad L hp)[i]? = some (ad k, emE dA ad (hp k)) := by
  obtain ⟨i, hi⟩ := List.getElem?_of_mem h
  exact ⟨i, by simp [kw, hi]⟩
theorem kw_at {dA ad : Nat → Nat} {L : List Nat} {hp : Nat → KE} {i : Nat} {x : Nat × va_E} (h : (kw dA ad L hp)[i]? = some x) : ∃ k, L[i]? = some k ∧ x = (ad k, emE dA ad (hp k)) := by
  simp only [kw, List.getElem?_map] at h
  cases hl : L[i]? with
  | none => rw [hl] at h; cases h
  | some k => rw [hl] at h; cases h; exact ⟨k, rfl, rfl⟩
def kinj (ad : Nat → Nat) (L : List Nat) : Prop := ∀ i ∈ L, ∀ j ∈ L, ad i = ad j → i = j
theorem nodup_at {L : List Nat} (hn : L.Nodup) {i j k : Nat} (hi : L[i]? = some k) (hj : L[j]? = some k) : i = j := by
  have h1 := (List.getElem?_eq_some_iff.mp hi)
  have h2 := (List.getElem?_eq_some_iff.mp hj)
  obtain ⟨a1, b1⟩ := h1
  obtain ⟨a2, b2⟩ := h2
  exact (List.getElem_inj hn).mp (b1.trans b2.symm)
theorem kw_set {dA ad : Nat → Nat} {L : List Nat} {hp : Nat → KE} {k i : Nat} {x : va_E} (hj : kinj ad L) (hn : L.Nodup) (h : k ∈ L) (hi : (kw dA ad L hp)[i]? = some (ad k, x)) (e : KE) : (kw dA ad L hp).set i (ad k, emE dA ad e) = kw dA ad L (va_up hp k e) := by
  obtain ⟨k1, h1, h2⟩ := kw_at hi
  have hk : k = k1 := hj k h k1 (List.mem_of_getElem? h1) (congrArg Prod.fst h2)
  subst hk
  have hlt : i < (kw dA ad L hp).length := (List.getElem?_eq_some_iff.mp hi).1
  apply List.ext_getElem?
  intro j
  by_cases hji : i = j
  · subst hji
    rw [List.getElem?_set_self hlt]
    simp [kw, h1, va_up_self]
  · rw [List.getElem?_set_ne hji]
    simp only [kw, List.getElem?_map]
    cases hl : L[j]? with
    | none => rfl
    | some k2 =>
      have hne : k2 ≠ k := fun z => hji (nodup_at hn (by rw [h1]) (by rw [hl, z]))
      show some (ad k2, emE dA ad (hp k2)) = some (ad k2, emE dA ad (va_up hp k e k2))
      rw [va_up_ne _ _ hne]
theorem kw_D {dA ad : Nat → Nat} {L : List Nat} {hp : Nat → KE} {A : Nat → Prop} (hj : kinj ad L) (hn : L.Nodup) (hA : ∀ k ∈ L, A (ad k)) : va_D A (kw dA ad L hp) := by
  refine ⟨fun i j p q hi hjj hpq => ?_, fun k q hk => ?_⟩
  · obtain ⟨k1, h1, rfl⟩ := kw_at hi
    obtain ⟨k2, h2, rfl⟩ := kw_at hjj
    have hk : k1 = k2 := hj _ (List.mem_of_getElem? h1) _ (List.mem_of_getElem? h2) hpq
    subst hk
    exact nodup_at hn h1 h2
  · obtain ⟨k1, h1, rfl⟩ := kw_at hk
    exact hA _ (List.mem_of_getElem? h1)
/-! a method's instructions as a table: place, instruction, next place -/
def ilen (i : Instr) : Nat := match i with
  | .iload _ => 2
  | .lload _ => 2
  | .aload _ => 2
  | .istore _ => 2
  | .lstore _ => 2
  | .astore _ => 2
  | .bipush _ => 2
  | .sipush _ => 3
  | .ldc _ => 2
  | .ldc_w _ => 3
  | .iinc _ _ => 3
  | .goto _ => 3
  | .ifCond _ _ => 3
  | .if_icmp _ _ => 3
  | .getfield _ => 3
  | .putfield _ => 3
  | .invokevirtual _ => 3
  | .invokestatic _ => 3
  | .invokespecial _ => 3
  | .new _ => 3
  | .newarray _ => 2
  | .anewarray _ => 3
  | .tableswitch _ _ _ _ => 0
  | _ => 1
def tbOK (cc : ByteArray) (tb : List (Nat × Instr × Nat)) : Bool := tb.all fun q => match decode cc q.1 with
  | .ok (i, n) => decide (i = q.2.1 ∧ q.1 + n = q.2.2 ∧ (ilen i = 0 ∨ n = ilen i))
  | _ => false
def fd (tb : List (Nat × Instr × Nat)) (pc : Nat) : Option (Instr × Nat) := match tb with
  | [] => none
  | (a, i, n) :: r => match Nat.beq a pc with
    | true => some (i, n)
    | false => fd r pc
theorem fd_ok {cc : ByteArray} : ∀ {tb : List (Nat × Instr × Nat)} {pc nx : Nat} {i : Instr}, tbOK cc tb = true → fd tb pc = some (i, nx) → ∃ n, decode cc pc = .ok (i, n) ∧ pc + n = nx ∧ (ilen i = 0 ∨ n = ilen i)
  | [], pc, nx, i, _, h => by simp [fd] at h
  | (a, j, n) :: r, pc, nx, i, ht, h => by
    simp only [tbOK, List.all_cons, Bool.and_eq_true] at ht
    by_cases hb : Nat.beq a pc = true
    · have hap : a = pc := Nat.eq_of_beq_eq_true hb
      simp only [fd, hb] at h
      cases h
      have h1 := ht.1
      subst hap
      cases hd : decode cc a with
      | error z => rw [hd] at h1; cases h1
      | ok z =>
        obtain ⟨j2, n2⟩ := z
        rw [hd] at h1
        have h2 := of_decide_eq_true h1
        obtain ⟨h3, h4⟩ := h2
        subst h3
        exact ⟨n2, rfl, h4⟩
    · have hb2 : Nat.beq a pc = false := by cases hx : Nat.beq a pc with
        | true => exact absurd hx hb
        | false => rfl
      simp only [fd, hb2] at h
      exact fd_ok (tb := r) ht.2 h
/-- the context of a method's body -/
def CX (p : Program) (s : State) (m : MethodId) (args : Array Value) (meth : Method) (c : Code) (own : String) (cc : ByteArray) (nL : Nat) (ret : Option FieldType) (tb : List (Nat × Instr × Nat)) (D : va_G) (dA ad : Nat → Nat) (L : List Nat) (A : Nat → Prop) : Prop :=
  CallFix p m c cc nL s args WW own ∧ meth.sig.returnType = ret ∧ meth.locks = false ∧ tbOK cc tb = true ∧ va_K D kcl (tysW dA) s ∧ kinj ad L ∧ L.Nodup ∧ (∀ k ∈ L, A (ad k)) ∧ (∀ q, s.heap.size ≤ q → A q)
abbrev emL (ad : Nat → Nat) (lv : List (Nat × Value)) : List (Nat × Value) := lv.map fun q => (q.1, em ad q.2)
def G (p : Program) (l : Launch) (e : Env) (R : Room) (s : State) (m : MethodId) (args : Array Value) (below : List Frame) (meth : Method) (c : Code) (D : va_G) (dA ad : Nat → Nat) (L : List Nat) (A : Nat → Prop) (nL cells slots : Nat) (Q : State → Prop) (hp : Nat → KE) (pc : Nat) (lv : List (Nat × Value)) (st : List Value) : Prop :=
  ∀ (H : Heap) (locs : List Loc) (ls : Array Slot), va_P D kcl (kw dA ad L hp) H → va_S A s.heap H locs → lv_has ls nL (emL ad lv) → W p l e R s m args below meth c H locs cells slots Q (F0 m pc ls (st.map (em ad)))
def lk (lv : List (Nat × Value)) (i : Nat) : Option Value := match lv with
  | [] => none
  | (j, v) :: r => match Nat.beq j i with
    | true => some v
    | false => lk r i
theorem lk_at {ad : Nat → Nat} {ls : Array Slot} {nL i : Nat} {v : Value} : ∀ {lv : List (Nat × Value)}, lv_has ls nL (emL ad lv) → lk lv i = some v → ls[i]? = some (.val (em ad v))
  | [], _, h => by simp [lk] at h
  | (j, w) :: r, hl, h => by
    by_cases hb : Nat.beq j i = true
    · simp only [lk, hb] at h
      have hv : w = v := Option.some.inj h
      have hji : j = i := Nat.eq_of_beq_eq_true hb
      subst hji
      subst hv
      exact hl.2.2 (j, em ad w) List.mem_cons_self
    · have hb2 : Nat.beq j i = false := by cases hx : Nat.beq j i with
        | true => exact absurd hx hb
        | false => rfl
      simp only [lk, hb2] at h
      exact lk_at (lv := r) ⟨hl.1, hl.2.1, fun q hq => hl.2.2 q (List.mem_cons_of_mem _ hq)⟩ h
def sv1 (lv : List (Nat × Value)) (i : Nat) (v : Value) : List (Nat × Value) := (i, v) :: lv.filter (fun q => !(Nat.beq q.1 i) && !(Nat.beq (q.1 + 1) i && Nat.beq q.2.category 2))
def sv2 (lv : List (Nat × Value)) (i : Nat) (v : Value) : List (Nat × Value) := (i, v) :: lv.filter (fun q => !(Nat.beq q.1 i) && (!(Nat.beq q.1 (i + 1)) && !(Nat.beq (q.1 + 1) i && Nat.beq q.2.category 2)))
theorem beq_nat (a b : Nat) : (a == b) = Nat.beq a b := by rw [Bool.eq_iff_iff, Nat.beq_eq, beq_iff_eq]
theorem em_sv1 (ad : Nat → Nat) (lv : List (Nat × Value)) (i : Nat) (v : Value) : (i, em ad v) :: (emL ad lv).filter (fun q => !(q.1 == i) && !(q.1 + 1 == i && q.2.category == 2)) = emL ad (sv1 lv i v) := by
  simp only [emL, sv1, List.map_cons, List.filter_map]
  congr 1
  congr 1
  apply List.filter_congr
  intro q _
  simp only [Function.comp, em_cat, beq_nat]
theorem em_sv2 (ad : Nat → Nat) (lv : List (Nat × Value)) (i : Nat) (v : Value) : (i, em ad v) :: (emL ad lv).filter (fun q => !(q.1 == i) && (!(q.1 == i + 1) && !(q.1 + 1 == i && q.2.category == 2))) = emL ad (sv2 lv i v) := by
  simp only [emL, sv2, List.map_cons, List.filter_map]
  congr 1
  congr 1
  apply List.filter_congr
  intro q _
  simp only [Function.comp, em_cat, beq_nat]
/-! one plain instruction -/
abbrev kS : Type := Nat × List (Nat × Value) × List Value
def cI (n : Int) : Int32 := match n with
  | .ofNat k => nI k
  | .negSucc k => Int32.ofInt (.negSucc k)
theorem cI_eq (n : Int) : Int32.ofInt n = cI n := by
  cases n with
  | ofNat k =>
    show Int32.ofInt ((k : Nat) : Int) = Int32.ofNat k
    first | exact Int32.ofInt_eq_ofNat | exact Int32.ofInt_natCast k | rfl | (simp [Int32.ofInt, Int32.ofNat]; done) | (apply Int32.toBitVec_inj.mp; simp; done)
  | negSucc k => rfl
def ldI (lv : List (Nat × Value)) (st : List Value) (nx i : Nat) : Option kS := match lk lv i with
  | some (.int x) => some (nx, lv, .int x :: st)
  | _ => none
def ldJ (lv : List (Nat × Value)) (st : List Value) (nx i : Nat) : Option kS := match lk lv i with
  | some (.long x) => some (nx, lv, .long x :: st)
  | _ => none
def ldA (lv : List (Nat × Value)) (st : List Value) (nx i : Nat) : Option kS := match lk lv i with
  | some (.ref x) => some (nx, lv, .ref x :: st)
  | _ => none
def stI (nL : Nat) (lv : List (Nat × Value)) (st : List Value) (nx i : Nat) : Option kS := match st with
  | .int x :: r => match Nat.ble (i + 1) nL with
    | true => some (nx, sv1 lv i (.int x), r)
    | false => none
  | _ => none
def stJ (nL : Nat) (lv : List (Nat × Value)) (st : List Value) (nx i : Nat) : Option kS := match st with
  | .long x :: r => match Nat.ble (i + 2) nL with
    | true => some (nx, sv2 lv i (.long x), r)
    | false => none
  | _ => none
def stA (nL : Nat) (lv : List (Nat × Value)) (st : List Value) (nx i : Nat) : Option kS := match st with
  | .ref x :: r => match Nat.ble (i + 1) nL with
    | true => some (nx, sv1 lv i (.ref x), r)
    | false => none
  | _ => none
def b2I (f : Int32 → Int32 → Int32) (lv : List (Nat × Value)) (st : List Value) (nx : Nat) : Option kS := match st with
  | .int y :: .int x :: r => some (nx, lv, .int (f x y) :: r)
  | _ => none
def b2J (f : Int64 → Int64 → Int64) (lv : List (Nat × Value)) (st : List Value) (nx : Nat) : Option kS := match st with
  | .long y :: .long x :: r => some (nx, lv, .long (f x y) :: r)
  | _ => none
def stC (lv : List (Nat × Value)) (st : List Value) (nx : Nat) : Option kS := match st with
  | .long y :: .long x :: r => some (nx, lv, .int (lg_cmp x y) :: r)
  | _ => none
def stL (lv : List (Nat × Value)) (st : List Value) (nx : Nat) : Option kS := match st with
  | .int x :: r => some (nx, lv, .long x.toInt64 :: r)
  | _ => none
def stD (lv : List (Nat × Value)) (st : List Value) (nx : Nat) : Option kS := match st with
  | .int x :: r => some (nx, lv, .int x :: .int x :: r)
  | .ref x :: r => some (nx, lv, .ref x :: .ref x :: r)
  | _ => none
def stD2 (lv : List (Nat × Value)) (st : List Value) (nx : Nat) : Option kS := match st with
  | .int x :: .ref y :: r => some (nx, lv, .int x :: .ref y :: .int x :: .ref y :: r)
  | _ => none
def stP (lv : List (Nat × Value)) (st : List Value) (nx : Nat) : Option kS := match st with
  | .int _ :: r => some (nx, lv, r)
  | .ref _ :: r => some (nx, lv, r)
  | _ => none
def stP2 (lv : List (Nat × Value)) (st : List Value) (nx : Nat) : Option kS := match st with
  | .long _ :: r => some (nx, lv, r)
  | _ => none
def stN (nL : Nat) (lv : List (Nat × Value)) (st : List Value) (nx i : Nat) (n : Int) : Option kS := match lk lv i with
  | some (.int x) => match Nat.ble (i + 1) nL with
    | true => some (nx, sv1 lv i (.int (x + cI n)), st)
    | false => none
  | _ => none
def stG (pc : Nat) (off : Int) (lv : List (Nat × Value)) (st : List Value) : Option kS := match (pc : Int) + off with
  | .ofNat t => some (t, lv, st)
  | .negSucc _ => none
def cst (x y : Int32) (lv : List (Nat × Value)) (st : List Value) (nx : Nat) : Option kS := match decEq x y with
  | isTrue _ => some (nx, lv, .int y :: st)
  | isFalse _ => none
def st1 (nL : Nat) (i : Instr) (pc nx : Nat) (lv : List (Nat × Value)) (st : List Value) : Option kS := match i with
  | .iconst n => some (nx, lv, .int (cI n) :: st)
  | .bipush n => cst (Int8.ofInt n).toInt32 (cI n) lv st nx
  | .sipush n => cst (Int16.ofInt n).toInt32 (cI n) lv st nx
  | .lconst n => some (nx, lv, .long (Int64.ofNat (n : Nat)) :: st)
  | .iload_n k => ldI lv st nx k
  | .iload k => ldI lv st nx k
  | .lload_n k => ldJ lv st nx k
  | .lload k => ldJ lv st nx k
  | .aload_n k => ldA lv st nx k
  | .aload k => ldA lv st nx k
  | .istore_n k => stI nL lv st nx k
  | .istore k => stI nL lv st nx k
  | .lstore_n k => stJ nL lv st nx k
  | .lstore k => stJ nL lv st nx k
  | .astore_n k => stA nL lv st nx k
  | .astore k => stA nL lv st nx k
  | .iinc k n => stN nL lv st nx k n
  | .iadd => b2I (fun x y => x + y) lv st nx
  | .isub => b2I (fun x y => x - y) lv st nx
  | .imul => b2I (fun x y => x * y) lv st nx
  | .iand => b2I (fun x y => x &&& y) lv st nx
  | .ior => b2I (fun x y => x ||| y) lv st nx
  | .ixor => b2I (fun x y => x ^^^ y) lv st nx
  | .ishl => b2I (fun x y => x <<< (y &&& 31)) lv st nx
  | .ishr => b2I (fun x y => x >>> (y &&& 31)) lv st nx
  | .iushr => b2I (fun x y => (x.toUInt32 >>> (y.toUInt32 &&& Int32.toUInt32 31)).toInt32) lv st nx
  | .ladd => b2J (fun x y => x + y) lv st nx
  | .lsub => b2J (fun x y => x - y) lv st nx
  | .lmul => b2J (fun x y => x * y) lv st nx
  | .lcmp => stC lv st nx
  | .i2l => stL lv st nx
  | .dup => stD lv st nx
  | .dup2 => stD2 lv st nx
  | .pop => stP lv st nx
  | .pop2 => stP2 lv st nx
  | .goto off => stG pc off lv st
  | _ => none
end
section
theorem tbOK_app {cc : ByteArray} {a b : List (Nat × Instr × Nat)} (h1 : tbOK cc a = true) (h2 : tbOK cc b = true) : tbOK cc (a ++ b) = true := by
  simp only [tbOK, List.all_append, Bool.and_eq_true] at h1 h2 ⊢
  exact ⟨h1, h2⟩
def tb_X0_init : List (Nat × Instr × Nat) := [(0, .aload_n 0, 1), (1, .invokespecial 3, 4), (4, .aload_n 0, 5), (5, .bipush 8, 7), (7, .newarray .int, 9), (9, .putfield 11, 12), (12, .aload_n 0, 13), (13, .bipush 8, 15), (15, .newarray .long, 17), (17, .putfield 15, 20), (20, .return_, 21)]
set_option maxRecDepth 100000 in
theorem ok_X0_init : tbOK cX0_init tb_X0_init = true := by decide +kernel
def tb_X0_become : List (Nat × Instr × Nat) := [(0, .aload_n 0, 1), (1, .iload_n 1, 2), (2, .putfield 19, 5), (5, .aload_n 0, 6), (6, .iload_n 2, 7), (7, .putfield 23, 10), (10, .aload_n 0, 11), (11, .iload_n 3, 12), (12, .putfield 26, 15), (15, .aload_n 0, 16), (16, .iload 4, 18), (18, .putfield 29, 21), (21, .iconst 0, 22), (22, .istore 5, 24), (24, .iload 5, 26), (26, .bipush 8, 28), (28, .if_icmp .ge 31, 31), (31, .aload_n 0, 32), (32, .iload 5, 34), (34, .iload 5, 36), (36, .iconst 1, 37), (37, .iand, 38), (38, .iload 5, 40), (40, .iconst 1, 41), (41, .ishr, 42), (42, .iconst 1, 43), (43, .iand, 44), (44, .iload 5, 46), (46, .iconst 2, 47), (47, .ishr, 48), (48, .iconst 1, 49), (49, .iand, 50), (50, .invokevirtual 32, 53), (53, .iinc 5 1, 56), (56, .goto (-32), 59), (59, .aload_n 0, 60), (60, .iconst 1, 61), (61, .invokevirtual 36, 64), (64, .aload_n 0, 65), (65, .iconst 2, 66), (66, .invokevirtual 36, 69), (69, .aload_n 0, 70), (70, .iconst 4, 71), (71, .invokevirtual 36, 74), (74, .return_, 75)]
set_option maxRecDepth 100000 in
theorem ok_X0_become : tbOK cX0_become tb_X0_become = true := by decide +kernel
def tb_X0_valueWhere : List (Nat × Instr × Nat) := [(0, .aload_n 0, 1), (1, .aload_n 0, 2), (2, .getfield 23, 5), (5, .iload_n 1, 6), (6, .invokestatic 40, 9), (9, .aload_n 0, 10), (10, .getfield 26, 13), (13, .iload_n 1, 14), (14, .invokestatic 40, 17), (17, .aload_n 0, 18), (18, .getfield 29, 21), (21, .iload_n 1, 22), (22, .invokestatic 40, 25), (25, .invokevirtual 44, 28), (28, .ireturn, 29)]
set_option maxRecDepth 100000 in
theorem ok_X0_valueWhere : tbOK cX0_valueWhere tb_X0_valueWhere = true := by decide +kernel
def tb_X0_addProduct : List (Nat × Instr × Nat) := [(0, .iconst 0, 1), (1, .istore 5, 3), (3, .iload 5, 5), (5, .bipush 8, 7), (7, .if_icmp .ge 32, 10), (10, .aload_n 1, 11), (11, .iload_n 2, 12), (12, .aload_n 0, 13), (13, .getfield 11, 16), (16, .iload 5, 18), (18, .iaload, 19), (19, .ior, 20), (20, .lload_n 3, 21), (21, .aload_n 0, 22), (22, .getfield 15, 25), (25, .iload 5, 27), (27, .laload, 28), (28, .lmul, 29), (29, .invokevirtual 48, 32), (32, .pop2, 33), (33, .iinc 5 1, 36), (36, .goto (-33), 39), (39, .return_, 40)]
set_option maxRecDepth 100000 in
theorem ok_X0_addProduct : tbOK cX0_addProduct tb_X0_addProduct = true := by decide +kernel
def tb_X0_setTermToValue : List (Nat × Instr × Nat) := [(0, .aload_n 0, 1), (1, .getfield 11, 4), (4, .iload_n 1, 5), (5, .iload_n 2, 6), (6, .aload_n 0, 7), (7, .getfield 23, 10), (10, .invokestatic 54, 13), (13, .imul, 14), (14, .iload_n 3, 15), (15, .aload_n 0, 16), (16, .getfield 26, 19), (19, .invokestatic 54, 22), (22, .imul, 23), (23, .ior, 24), (24, .iload 4, 26), (26, .aload_n 0, 27), (27, .getfield 29, 30), (30, .invokestatic 54, 33), (33, .imul, 34), (34, .ior, 35), (35, .iastore, 36), (36, .aload_n 0, 37), (37, .getfield 15, 40), (40, .iload_n 1, 41), (41, .aload_n 0, 42), (42, .aload_n 0, 43), (43, .getfield 23, 46), (46, .iload_n 2, 47), (47, .invokestatic 58, 50), (50, .aload_n 0, 51), (51, .getfield 26, 54), (54, .iload_n 3, 55), (55, .invokestatic 58, 58), (58, .aload_n 0, 59), (59, .getfield 29, 62), (62, .iload 4, 64), (64, .invokestatic 58, 67), (67, .invokevirtual 44, 70), (70, .i2l, 71), (71, .lastore, 72), (72, .return_, 73)]
set_option maxRecDepth 100000 in
theorem ok_X0_setTermToValue : tbOK cX0_setTermToValue tb_X0_setTermToValue = true := by decide +kernel
def tb_X0_turnValuesToNumbers : List (Nat × Instr × Nat) := [(0, .iconst 0, 1), (1, .istore_n 2, 2), (2, .iload_n 2, 3), (3, .bipush 8, 5), (5, .if_icmp .ge 32, 8), (8, .iload_n 2, 9), (9, .iload_n 1, 10), (10, .iand, 11), (11, .ifCond .eq 20, 14), (14, .aload_n 0, 15), (15, .getfield 15, 18), (18, .iload_n 2, 19), (19, .dup2, 20), (20, .laload, 21), (21, .aload_n 0, 22), (22, .getfield 15, 25), (25, .iload_n 2, 26), (26, .iload_n 1, 27), (27, .isub, 28), (28, .laload, 29), (29, .lsub, 30), (30, .lastore, 31), (31, .iinc 2 1, 34), (34, .goto (-32), 37), (37, .return_, 38)]
set_option maxRecDepth 100000 in
theorem ok_X0_turnValuesToNumbers : tbOK cX0_turnValuesToNumbers tb_X0_turnValuesToNumbers = true := by decide +kernel
def tb_X0_outcome : List (Nat × Instr × Nat) := [(0, .aload_n 0, 1), (1, .getfield 19, 4), (4, .tableswitch 47 0 2 #[28, 32, 36], 32), (32, .iload_n 1, 33), (33, .iload_n 2, 34), (34, .iand, 35), (35, .ireturn, 36), (36, .iload_n 1, 37), (37, .iload_n 2, 38), (38, .ixor, 39), (39, .ireturn, 40), (40, .iload_n 1, 41), (41, .iconst 1, 42), (42, .if_icmp .ne 7, 45), (45, .iload_n 2, 46), (46, .goto 4, 49), (49, .iload_n 3, 50), (50, .ireturn, 51), (51, .iload_n 1, 52), (52, .iload_n 2, 53), (53, .iadd, 54), (54, .iload_n 3, 55), (55, .iadd, 56), (56, .iconst 2, 57), (57, .if_icmp .lt 7, 60), (60, .iconst 1, 61), (61, .goto 4, 64), (64, .iconst 0, 65), (65, .ireturn, 66)]
set_option maxRecDepth 100000 in
theorem ok_X0_outcome : tbOK cX0_outcome tb_X0_outcome = true := by decide +kernel
def tb_X0_literalWhere : List (Nat × Instr × Nat) := [(0, .iload_n 0, 1), (1, .iload_n 1, 2), (2, .iload_n 0, 3), (3, .invokestatic 54, 6), (6, .iand, 7), (7, .ifCond .ne 7, 10), (10, .iconst 0, 11), (11, .goto 4, 14), (14, .iconst 1, 15), (15, .invokestatic 58, 18), (18, .ireturn, 19)]
set_option maxRecDepth 100000 in
theorem ok_X0_literalWhere : tbOK cX0_literalWhere tb_X0_literalWhere = true := by decide +kernel
def tb_X0_literalFor : List (Nat × Instr × Nat) := [(0, .iload_n 0, 1), (1, .iconst 2, 2), (2, .if_icmp .ge 7, 5), (5, .iload_n 0, 6), (6, .goto 8, 9), (9, .iload_n 1, 10), (10, .iload_n 0, 11), (11, .iconst 1, 12), (12, .iand, 13), (13, .ixor, 14), (14, .ireturn, 15)]
set_option maxRecDepth 100000 in
theorem ok_X0_literalFor : tbOK cX0_literalFor tb_X0_literalFor = true := by decide +kernel
def tb_X0_wireBit : List (Nat × Instr × Nat) := [(0, .iload_n 0, 1), (1, .iconst 2, 2), (2, .if_icmp .ge 7, 5), (5, .iconst 0, 6), (6, .goto 9, 9), (9, .iload_n 0, 10), (10, .iconst 2, 11), (11, .idiv, 12), (12, .invokestatic 61, 15), (15, .ireturn, 16)]
set_option maxRecDepth 100000 in
theorem ok_X0_wireBit : tbOK cX0_wireBit tb_X0_wireBit = true := by decide +kernel
def tb_X1_init : List (Nat × Instr × Nat) := [(0, .aload_n 0, 1), (1, .invokespecial 3, 4), (4, .aload_n 0, 5), (5, .sipush 512, 8), (8, .newarray .long, 10), (10, .putfield 9, 13), (13, .return_, 14)]
set_option maxRecDepth 100000 in
theorem ok_X1_init : tbOK cX1_init tb_X1_init = true := by decide +kernel
def tb_X1_erase : List (Nat × Instr × Nat) := [(0, .aload_n 0, 1), (1, .getfield 9, 4), (4, .lconst 0, 5), (5, .invokestatic 15, 8), (8, .aload_n 0, 9), (9, .iconst 0, 10), (10, .putfield 21, 13), (13, .return_, 14)]
set_option maxRecDepth 100000 in
theorem ok_X1_erase : tbOK cX1_erase tb_X1_erase = true := by decide +kernel
def tb_X1_becomeCopy : List (Nat × Instr × Nat) := [(0, .aload_n 1, 1), (1, .getfield 9, 4), (4, .iconst 0, 5), (5, .aload_n 0, 6), (6, .getfield 9, 9), (9, .iconst 0, 10), (10, .sipush 512, 13), (13, .invokestatic 25, 16), (16, .aload_n 0, 17), (17, .aload_n 1, 18), (18, .getfield 21, 21), (21, .putfield 21, 24), (24, .return_, 25)]
set_option maxRecDepth 100000 in
theorem ok_X1_becomeCopy : tbOK cX1_becomeCopy tb_X1_becomeCopy = true := by decide +kernel
def tb_X1_becomeElimination : List (Nat × Instr × Nat) := [(0, .aload_n 0, 1), (1, .invokevirtual 31, 4), (4, .iconst 0, 5), (5, .istore 4, 7), (7, .iload 4, 9), (9, .sipush 512, 12), (12, .if_icmp .ge 62, 15), (15, .aload_n 1, 16), (16, .getfield 9, 19), (19, .iload 4, 21), (21, .laload, 22), (22, .lstore 5, 24), (24, .lload 5, 26), (26, .lconst 0, 27), (27, .lcmp, 28), (28, .ifCond .eq 22, 31), (31, .iload 4, 33), (33, .iload_n 2, 34), (34, .iand, 35), (35, .ifCond .ne 15, 38), (38, .aload_n 0, 39), (39, .iload 4, 41), (41, .lload 5, 43), (43, .invokevirtual 34, 46), (46, .pop2, 47), (47, .goto 21, 50), (50, .lload 5, 52), (52, .lconst 0, 53), (53, .lcmp, 54), (54, .ifCond .eq 14, 57), (57, .aload_n 3, 58), (58, .aload_n 0, 59), (59, .iload 4, 61), (61, .iload_n 2, 62), (62, .isub, 63), (63, .lload 5, 65), (65, .invokevirtual 38, 68), (68, .iinc 4 1, 71), (71, .goto (-64), 74), (74, .return_, 75)]
set_option maxRecDepth 100000 in
theorem ok_X1_becomeElimination : tbOK cX1_becomeElimination tb_X1_becomeElimination = true := by decide +kernel
def tb_X1_increase : List (Nat × Instr × Nat) := [(0, .aload_n 0, 1), (1, .getfield 9, 4), (4, .iload_n 1, 5), (5, .laload, 6), (6, .lstore 4, 8), (8, .lload 4, 10), (10, .lload_n 2, 11), (11, .ladd, 12), (12, .lstore 6, 14), (14, .lload 4, 16), (16, .lconst 0, 17), (17, .lcmp, 18), (18, .ifCond .ne 23, 21), (21, .lload 6, 23), (23, .lconst 0, 24), (24, .lcmp, 25), (25, .ifCond .eq 16, 28), (28, .aload_n 0, 29), (29, .dup, 30), (30, .getfield 21, 33), (33, .iconst 1, 34), (34, .iadd, 35), (35, .putfield 21, 38), (38, .goto 27, 41), (41, .lload 4, 43), (43, .lconst 0, 44), (44, .lcmp, 45), (45, .ifCond .eq 20, 48), (48, .lload 6, 50), (50, .lconst 0, 51), (51, .lcmp, 52), (52, .ifCond .ne 13, 55), (55, .aload_n 0, 56), (56, .dup, 57), (57, .getfield 21, 60), (60, .iconst 1, 61), (61, .isub, 62), (62, .putfield 21, 65), (65, .aload_n 0, 66), (66, .getfield 9, 69), (69, .iload_n 1, 70), (70, .lload 6, 72), (72, .lastore, 73), (73, .lload 6, 75), (75, .lreturn, 76)]
set_option maxRecDepth 100000 in
theorem ok_X1_increase : tbOK cX1_increase tb_X1_increase = true := by decide +kernel
def tb_X1_numberOf : List (Nat × Instr × Nat) := [(0, .aload_n 0, 1), (1, .getfield 9, 4), (4, .iload_n 1, 5), (5, .laload, 6), (6, .lreturn, 7)]
set_option maxRecDepth 100000 in
theorem ok_X1_numberOf : tbOK cX1_numberOf tb_X1_numberOf = true := by decide +kernel
def tb_X1_monomialCount : List (Nat × Instr × Nat) := [(0, .aload_n 0, 1), (1, .getfield 21, 4), (4, .ireturn, 5)]
set_option maxRecDepth 100000 in
theorem ok_X1_monomialCount : tbOK cX1_monomialCount tb_X1_monomialCount = true := by decide +kernel
def tb_X1_monomialAt : List (Nat × Instr × Nat) := [(0, .iload_n 1, 1), (1, .istore_n 2, 2), (2, .sipush 511, 5), (5, .istore_n 3, 6), (6, .iload_n 3, 7), (7, .ifCond .le 29, 10), (10, .aload_n 0, 11), (11, .getfield 9, 14), (14, .iload_n 3, 15), (15, .laload, 16), (16, .lconst 0, 17), (17, .lcmp, 18), (18, .ifCond .eq 12, 21), (21, .iload_n 2, 22), (22, .ifCond .ne 5, 25), (25, .iload_n 3, 26), (26, .ireturn, 27), (27, .iinc 2 (-1), 30), (30, .iinc 3 (-1), 33), (33, .goto (-27), 36), (36, .iconst 0, 37), (37, .ireturn, 38)]
set_option maxRecDepth 100000 in
theorem ok_X1_monomialAt : tbOK cX1_monomialAt tb_X1_monomialAt = true := by decide +kernel
def tb_X1_leastMonomialOfFewestWires : List (Nat × Instr × Nat) := [(0, .iconst 0, 1), (1, .istore_n 1, 2), (2, .bipush 10, 4), (4, .istore_n 2, 5), (5, .iconst 0, 6), (6, .istore_n 3, 7), (7, .iload_n 3, 8), (8, .sipush 512, 11), (11, .if_icmp .ge 35, 14), (14, .aload_n 0, 15), (15, .getfield 9, 18), (18, .iload_n 3, 19), (19, .laload, 20), (20, .lconst 0, 21), (21, .lcmp, 22), (22, .ifCond .eq 18, 25), (25, .iload_n 3, 26), (26, .invokestatic 44, 29), (29, .iload_n 2, 30), (30, .if_icmp .ge 10, 33), (33, .iload_n 3, 34), (34, .istore_n 1, 35), (35, .iload_n 3, 36), (36, .invokestatic 44, 39), (39, .istore_n 2, 40), (40, .iinc 3 1, 43), (43, .goto (-36), 46), (46, .iload_n 1, 47), (47, .ireturn, 48)]
set_option maxRecDepth 100000 in
theorem ok_X1_leastMonomialOfFewestWires : tbOK cX1_leastMonomialOfFewestWires tb_X1_leastMonomialOfFewestWires = true := by decide +kernel
def tb_X1_valueWhere : List (Nat × Instr × Nat) := [(0, .lconst 0, 1), (1, .lstore_n 2, 2), (2, .iconst 0, 3), (3, .istore 4, 5), (5, .iload 4, 7), (7, .sipush 512, 10), (10, .if_icmp .ge 28, 13), (13, .iload 4, 15), (15, .iload_n 1, 16), (16, .iconst (-1), 17), (17, .ixor, 18), (18, .iand, 19), (19, .ifCond .ne 13, 22), (22, .lload_n 2, 23), (23, .aload_n 0, 24), (24, .getfield 9, 27), (27, .iload 4, 29), (29, .laload, 30), (30, .ladd, 31), (31, .lstore_n 2, 32), (32, .iinc 4 1, 35), (35, .goto (-30), 38), (38, .lload_n 2, 39), (39, .lreturn, 40)]
set_option maxRecDepth 100000 in
theorem ok_X1_valueWhere : tbOK cX1_valueWhere tb_X1_valueWhere = true := by decide +kernel
def tb_X1_isSameAs : List (Nat × Instr × Nat) := [(0, .aload_n 0, 1), (1, .getfield 21, 4), (4, .aload_n 1, 5), (5, .getfield 21, 8), (8, .if_icmp .eq 5, 11), (11, .iconst 0, 12), (12, .ireturn, 13), (13, .iconst 0, 14), (14, .istore_n 2, 15), (15, .iload_n 2, 16), (16, .sipush 512, 19), (19, .if_icmp .ge 27, 22), (22, .aload_n 0, 23), (23, .getfield 9, 26), (26, .iload_n 2, 27), (27, .laload, 28), (28, .aload_n 1, 29), (29, .getfield 9, 32), (32, .iload_n 2, 33), (33, .laload, 34), (34, .lcmp, 35), (35, .ifCond .eq 5, 38), (38, .iconst 0, 39), (39, .ireturn, 40), (40, .iinc 2 1, 43), (43, .goto (-28), 46), (46, .iconst 1, 47), (47, .ireturn, 48)]
set_option maxRecDepth 100000 in
theorem ok_X1_isSameAs : tbOK cX1_isSameAs tb_X1_isSameAs = true := by decide +kernel
def tb_X2_init : List (Nat × Instr × Nat) := [(0, .aload_n 0, 1), (1, .invokespecial 1, 4), (4, .aload_n 0, 5), (5, .bipush 9, 7), (7, .anewarray 9, 10), (10, .putfield 11, 13), (13, .aload_n 0, 14), (14, .new 15, 17), (17, .dup, 18), (18, .invokespecial 17, 21), (21, .putfield 18, 24), (24, .aload_n 0, 25), (25, .bipush 10, 27), (27, .anewarray 15, 30), (30, .putfield 22, 33), (33, .aload_n 0, 34), (34, .new 15, 37), (37, .dup, 38), (38, .invokespecial 17, 41), (41, .putfield 26, 44), (44, .iconst 0, 45), (45, .istore_n 1, 46), (46, .iload_n 1, 47), (47, .aload_n 0, 48), (48, .getfield 11, 51), (51, .arraylength, 52), (52, .if_icmp .ge 22, 55), (55, .aload_n 0, 56), (56, .getfield 11, 59), (59, .iload_n 1, 60), (60, .new 9, 63), (63, .dup, 64), (64, .invokespecial 29, 67), (67, .aastore, 68), (68, .iinc 1 1, 71), (71, .goto (-25), 74), (74, .iconst 0, 75), (75, .istore_n 1, 76), (76, .iload_n 1, 77), (77, .aload_n 0, 78), (78, .getfield 22, 81), (81, .arraylength, 82), (82, .if_icmp .ge 22, 85), (85, .aload_n 0, 86), (86, .getfield 22, 89), (89, .iload_n 1, 90), (90, .new 15, 93), (93, .dup, 94), (94, .invokespecial 17, 97), (97, .aastore, 98), (98, .iinc 1 1, 101), (101, .goto (-25), 104), (104, .return_, 105)]
set_option maxRecDepth 100000 in
theorem ok_X2_init : tbOK cX2_init tb_X2_init = true := by decide +kernel
def tb_X2_input : List (Nat × Instr × Nat) := [(0, .aload_n 0, 1), (1, .invokevirtual 30, 4), (4, .aload_n 0, 5), (5, .dup, 6), (6, .getfield 33, 9), (9, .aload_n 0, 10), (10, .getfield 37, 13), (13, .iconst 1, 14), (14, .iadd, 15), (15, .invokestatic 40, 18), (18, .ior, 19), (19, .putfield 33, 22), (22, .aload_n 0, 23), (23, .invokevirtual 44, 26), (26, .ireturn, 27)]
set_option maxRecDepth 100000 in
theorem ok_X2_input : tbOK cX2_input tb_X2_input = true := by decide +kernel
def tb_X2_gate : List (Nat × Instr × Nat) := [(0, .iload_n 1, 1), (1, .ifCond .lt 12, 4), (4, .iload_n 1, 5), (5, .iconst 3, 6), (6, .if_icmp .gt 7, 9), (9, .iconst 1, 10), (10, .goto 4, 13), (13, .iconst 0, 14), (14, .istore 5, 16), (16, .iload_n 1, 17), (17, .iconst 2, 18), (18, .if_icmp .eq 8, 21), (21, .iload_n 1, 22), (22, .iconst 3, 23), (23, .if_icmp .ne 7, 26), (26, .iconst 1, 27), (27, .goto 4, 30), (30, .iconst 0, 31), (31, .istore 6, 33), (33, .iload 5, 35), (35, .ifCond .eq 33, 38), (38, .aload_n 0, 39), (39, .iload_n 2, 40), (40, .invokevirtual 48, 43), (43, .ifCond .eq 25, 46), (46, .aload_n 0, 47), (47, .iload_n 3, 48), (48, .invokevirtual 48, 51), (51, .ifCond .eq 17, 54), (54, .iload 6, 56), (56, .ifCond .eq 22, 59), (59, .aload_n 0, 60), (60, .iload 4, 62), (62, .invokevirtual 48, 65), (65, .ifCond .ne 13, 68), (68, .new 52, 71), (71, .dup, 72), (72, .ldc 54, 74), (74, .invokespecial 56, 77), (77, .athrow, 78), (78, .aload_n 0, 79), (79, .invokevirtual 30, 82), (82, .aload_n 0, 83), (83, .getfield 11, 86), (86, .aload_n 0, 87), (87, .getfield 37, 90), (90, .aaload, 91), (91, .iload_n 1, 92), (92, .iload_n 2, 93), (93, .iload_n 3, 94), (94, .iload 6, 96), (96, .ifCond .eq 8, 99), (99, .iload 4, 101), (101, .goto 4, 104), (104, .iconst 0, 105), (105, .invokevirtual 59, 108), (108, .aload_n 0, 109), (109, .invokevirtual 44, 112), (112, .ireturn, 113)]
set_option maxRecDepth 100000 in
theorem ok_X2_gate : tbOK cX2_gate tb_X2_gate = true := by decide +kernel
def tb_X2_wires : List (Nat × Instr × Nat) := [(0, .aload_n 0, 1), (1, .getfield 37, 4), (4, .ireturn, 5)]
set_option maxRecDepth 100000 in
theorem ok_X2_wires : tbOK cX2_wires tb_X2_wires = true := by decide +kernel
def tb_X2_add : List (Nat × Instr × Nat) := [(0, .aload_n 0, 1), (1, .iload_n 1, 2), (2, .invokevirtual 63, 5), (5, .ifCond .ne 13, 8), (8, .new 52, 11), (11, .dup, 12), (12, .ldc 66, 14), (14, .invokespecial 56, 17), (17, .athrow, 18), (18, .aload_n 0, 19), (19, .getfield 68, 22), (22, .bipush 40, 24), (24, .if_icmp .lt 13, 27), (27, .new 71, 30), (30, .dup, 31), (31, .ldc 73, 33), (33, .invokespecial 75, 36), (36, .athrow, 37), (37, .aload_n 0, 38), (38, .getfield 18, 41), (41, .iload_n 1, 42), (42, .iload_n 2, 43), (43, .i2l, 44), (44, .invokevirtual 76, 47), (47, .pop2, 48), (48, .aload_n 0, 49), (49, .dup, 50), (50, .getfield 68, 53), (53, .iconst 1, 54), (54, .iadd, 55), (55, .putfield 68, 58), (58, .aload_n 0, 59), (59, .invokevirtual 80, 62), (62, .aload_n 0, 63), (63, .getfield 68, 66), (66, .ireturn, 67)]
set_option maxRecDepth 100000 in
theorem ok_X2_add : tbOK cX2_add tb_X2_add = true := by decide +kernel
def tb_X2_simulate : List (Nat × Instr × Nat) := [(0, .aload_n 0, 1), (1, .iload_n 1, 2), (2, .invokevirtual 83, 5), (5, .aload_n 0, 6), (6, .iload_n 1, 7), (7, .invokevirtual 87, 10), (10, .ireturn, 11)]
set_option maxRecDepth 100000 in
theorem ok_X2_simulate : tbOK cX2_simulate tb_X2_simulate = true := by decide +kernel
def tb_X2_evaluate : List (Nat × Instr × Nat) := [(0, .aload_n 0, 1), (1, .iload_n 1, 2), (2, .invokevirtual 83, 5), (5, .aload_n 0, 6), (6, .getfield 18, 9), (9, .aload_n 0, 10), (10, .iload_n 1, 11), (11, .invokevirtual 87, 14), (14, .invokevirtual 90, 17), (17, .lreturn, 18)]
set_option maxRecDepth 100000 in
theorem ok_X2_evaluate : tbOK cX2_evaluate tb_X2_evaluate = true := by decide +kernel
def tb_X2_prove : List (Nat × Instr × Nat) := [(0, .aload_n 0, 1), (1, .getfield 22, 4), (4, .iconst 0, 5), (5, .aaload, 6), (6, .aload_n 0, 7), (7, .getfield 18, 10), (10, .invokevirtual 94, 13), (13, .iconst 0, 14), (14, .istore_n 1, 15), (15, .aload_n 0, 16), (16, .getfield 37, 19), (19, .istore_n 2, 20), (20, .iload_n 2, 21), (21, .iconst 1, 22), (22, .if_icmp .lt 73, 25), (25, .aload_n 0, 26), (26, .iload_n 2, 27), (27, .invokevirtual 98, 30), (30, .ifCond .eq 59, 33), (33, .iinc 1 1, 36), (36, .aload_n 0, 37), (37, .getfield 22, 40), (40, .iload_n 1, 41), (41, .aaload, 42), (42, .aload_n 0, 43), (43, .getfield 22, 46), (46, .iload_n 1, 47), (47, .iconst 1, 48), (48, .isub, 49), (49, .aaload, 50), (50, .iload_n 2, 51), (51, .invokestatic 40, 54), (54, .aload_n 0, 55), (55, .getfield 11, 58), (58, .iload_n 2, 59), (59, .iconst 1, 60), (60, .isub, 61), (61, .aaload, 62), (62, .invokevirtual 101, 65), (65, .aload_n 0, 66), (66, .getfield 22, 69), (69, .iload_n 1, 70), (70, .aaload, 71), (71, .invokevirtual 105, 74), (74, .bipush 40, 76), (76, .if_icmp .le 13, 79), (79, .new 108, 82), (82, .dup, 83), (83, .ldc 110, 85), (85, .invokespecial 112, 88), (88, .athrow, 89), (89, .iinc 2 (-1), 92), (92, .goto (-72), 95), (95, .aload_n 0, 96), (96, .iload_n 1, 97), (97, .iconst 1, 98), (98, .iadd, 99), (99, .putfield 113, 102), (102, .aload_n 0, 103), (103, .getfield 22, 106), (106, .iload_n 1, 107), (107, .aaload, 108), (108, .invokevirtual 105, 111), (111, .ireturn, 112)]
set_option maxRecDepth 100000 in
theorem ok_X2_prove : tbOK cX2_prove tb_X2_prove = true := by decide +kernel
def tb_X2_lines : List (Nat × Instr × Nat) := [(0, .aload_n 0, 1), (1, .getfield 113, 4), (4, .ireturn, 5)]
set_option maxRecDepth 100000 in
theorem ok_X2_lines : tbOK cX2_lines tb_X2_lines = true := by decide +kernel
def tb_X2_size : List (Nat × Instr × Nat) := [(0, .aload_n 0, 1), (1, .iload_n 1, 2), (2, .invokevirtual 116, 5), (5, .invokevirtual 105, 8), (8, .ireturn, 9)]
set_option maxRecDepth 100000 in
theorem ok_X2_size : tbOK cX2_size tb_X2_size = true := by decide +kernel
def tb_X2_monomial : List (Nat × Instr × Nat) := [(0, .aload_n 0, 1), (1, .iload_n 1, 2), (2, .invokevirtual 116, 5), (5, .astore_n 3, 6), (6, .iload_n 2, 7), (7, .ifCond .lt 11, 10), (10, .iload_n 2, 11), (11, .aload_n 3, 12), (12, .invokevirtual 105, 15), (15, .if_icmp .lt 13, 18), (18, .new 120, 21), (21, .dup, 22), (22, .ldc 122, 24), (24, .invokespecial 124, 27), (27, .athrow, 28), (28, .aload_n 3, 29), (29, .iload_n 2, 30), (30, .invokevirtual 125, 33), (33, .ireturn, 34)]
set_option maxRecDepth 100000 in
theorem ok_X2_monomial : tbOK cX2_monomial tb_X2_monomial = true := by decide +kernel
def tb_X2_coefficient : List (Nat × Instr × Nat) := [(0, .aload_n 0, 1), (1, .iload_n 1, 2), (2, .invokevirtual 116, 5), (5, .astore_n 3, 6), (6, .aload_n 0, 7), (7, .iload_n 2, 8), (8, .invokevirtual 128, 11), (11, .aload_n 3, 12), (12, .iload_n 2, 13), (13, .invokevirtual 131, 16), (16, .lreturn, 17)]
set_option maxRecDepth 100000 in
theorem ok_X2_coefficient : tbOK cX2_coefficient tb_X2_coefficient = true := by decide +kernel
def tb_X2_spoil : List (Nat × Instr × Nat) := [(0, .aload_n 0, 1), (1, .iload_n 1, 2), (2, .invokevirtual 116, 5), (5, .astore 4, 7), (7, .aload_n 0, 8), (8, .iload_n 2, 9), (9, .invokevirtual 128, 12), (12, .iload_n 3, 13), (13, .ifCond .eq 18, 16), (16, .aload 4, 18), (18, .iload_n 2, 19), (19, .invokevirtual 131, 22), (22, .lconst 0, 23), (23, .lcmp, 24), (24, .ifCond .ne 7, 27), (27, .iconst 1, 28), (28, .goto 4, 31), (31, .iconst 0, 32), (32, .istore 5, 34), (34, .iload 5, 36), (36, .ifCond .eq 23, 39), (39, .aload 4, 41), (41, .invokevirtual 105, 44), (44, .bipush 40, 46), (46, .if_icmp .lt 13, 49), (49, .new 108, 52), (52, .dup, 53), (53, .ldc 134, 55), (55, .invokespecial 112, 58), (58, .athrow, 59), (59, .aload 4, 61), (61, .iload_n 2, 62), (62, .iload_n 3, 63), (63, .i2l, 64), (64, .invokevirtual 76, 67), (67, .lreturn, 68)]
set_option maxRecDepth 100000 in
theorem ok_X2_spoil : tbOK cX2_spoil tb_X2_spoil = true := by decide +kernel
def tb_X2_check : List (Nat × Instr × Nat) := [(0, .aload_n 0, 1), (1, .invokevirtual 136, 4), (4, .aload_n 0, 5), (5, .getfield 22, 8), (8, .iconst 0, 9), (9, .aaload, 10), (10, .aload_n 0, 11), (11, .getfield 18, 14), (14, .invokevirtual 139, 17), (17, .ifCond .ne 5, 20), (20, .iconst 0, 21), (21, .ireturn, 22), (22, .iconst 0, 23), (23, .istore_n 1, 24), (24, .aload_n 0, 25), (25, .getfield 37, 28), (28, .istore_n 2, 29), (29, .iload_n 2, 30), (30, .iconst 1, 31), (31, .if_icmp .lt 65, 34), (34, .aload_n 0, 35), (35, .iload_n 2, 36), (36, .invokevirtual 98, 39), (39, .ifCond .eq 51, 42), (42, .iinc 1 1, 45), (45, .aload_n 0, 46), (46, .getfield 26, 49), (49, .aload_n 0, 50), (50, .getfield 22, 53), (53, .iload_n 1, 54), (54, .iconst 1, 55), (55, .isub, 56), (56, .aaload, 57), (57, .iload_n 2, 58), (58, .invokestatic 40, 61), (61, .aload_n 0, 62), (62, .getfield 11, 65), (65, .iload_n 2, 66), (66, .iconst 1, 67), (67, .isub, 68), (68, .aaload, 69), (69, .invokevirtual 101, 72), (72, .aload_n 0, 73), (73, .getfield 22, 76), (76, .iload_n 1, 77), (77, .aaload, 78), (78, .aload_n 0, 79), (79, .getfield 26, 82), (82, .invokevirtual 139, 85), (85, .ifCond .ne 5, 88), (88, .iload_n 1, 89), (89, .ireturn, 90), (90, .iinc 2 (-1), 93), (93, .goto (-64), 96), (96, .aload_n 0, 97), (97, .getfield 113, 100), (100, .ireturn, 101)]
set_option maxRecDepth 100000 in
theorem ok_X2_check : tbOK cX2_check tb_X2_check = true := by decide +kernel
def tb_X2_witness : List (Nat × Instr × Nat) := [(0, .aload_n 0, 1), (1, .invokevirtual 136, 4), (4, .aload_n 0, 5), (5, .getfield 22, 8), (8, .aload_n 0, 9), (9, .getfield 113, 12), (12, .iconst 1, 13), (13, .isub, 14), (14, .aaload, 15), (15, .astore_n 1, 16), (16, .aload_n 1, 17), (17, .invokevirtual 105, 20), (20, .ifCond .ne 13, 23), (23, .new 143, 26), (26, .dup, 27), (27, .ldc 145, 29), (29, .invokespecial 147, 32), (32, .athrow, 33), (33, .aload_n 1, 34), (34, .invokevirtual 148, 37), (37, .ireturn, 38)]
set_option maxRecDepth 100000 in
theorem ok_X2_witness : tbOK cX2_witness tb_X2_witness = true := by decide +kernel
def tb_X2_clear : List (Nat × Instr × Nat) := [(0, .aload_n 0, 1), (1, .getfield 37, 4), (4, .istore_n 1, 5), (5, .aload_n 0, 6), (6, .iconst 0, 7), (7, .putfield 37, 10), (10, .aload_n 0, 11), (11, .iconst 0, 12), (12, .putfield 33, 15), (15, .aload_n 0, 16), (16, .getfield 18, 19), (19, .invokevirtual 151, 22), (22, .aload_n 0, 23), (23, .iconst 0, 24), (24, .putfield 68, 27), (27, .aload_n 0, 28), (28, .invokevirtual 80, 31), (31, .iload_n 1, 32), (32, .ireturn, 33)]
set_option maxRecDepth 100000 in
theorem ok_X2_clear : tbOK cX2_clear tb_X2_clear = true := by decide +kernel
def tb_X2_countNewWire : List (Nat × Instr × Nat) := [(0, .aload_n 0, 1), (1, .dup, 2), (2, .getfield 37, 5), (5, .iconst 1, 6), (6, .iadd, 7), (7, .putfield 37, 10), (10, .aload_n 0, 11), (11, .invokevirtual 80, 14), (14, .aload_n 0, 15), (15, .getfield 37, 18), (18, .ireturn, 19)]
set_option maxRecDepth 100000 in
theorem ok_X2_countNewWire : tbOK cX2_countNewWire tb_X2_countNewWire = true := by decide +kernel
def tb_X2_dropProof : List (Nat × Instr × Nat) := [(0, .aload_n 0, 1), (1, .iconst 0, 2), (2, .putfield 113, 5), (5, .return_, 6)]
set_option maxRecDepth 100000 in
theorem ok_X2_dropProof : tbOK cX2_dropProof tb_X2_dropProof = true := by decide +kernel
def tb_X2_refuseTenthWire : List (Nat × Instr × Nat) := [(0, .aload_n 0, 1), (1, .getfield 37, 4), (4, .bipush 9, 6), (6, .if_icmp .lt 13, 9), (9, .new 71, 12), (12, .dup, 13), (13, .ldc 154, 15), (15, .invokespecial 75, 18), (18, .athrow, 19), (19, .return_, 20)]
set_option maxRecDepth 100000 in
theorem ok_X2_refuseTenthWire : tbOK cX2_refuseTenthWire tb_X2_refuseTenthWire = true := by decide +kernel
def tb_X2_refuseOtherThanInputs : List (Nat × Instr × Nat) := [(0, .iload_n 1, 1), (1, .aload_n 0, 2), (2, .getfield 33, 5), (5, .iconst (-1), 6), (6, .ixor, 7), (7, .iand, 8), (8, .ifCond .eq 13, 11), (11, .new 52, 14), (14, .dup, 15), (15, .ldc 156, 17), (17, .invokespecial 56, 20), (20, .athrow, 21), (21, .return_, 22)]
set_option maxRecDepth 100000 in
theorem ok_X2_refuseOtherThanInputs : tbOK cX2_refuseOtherThanInputs tb_X2_refuseOtherThanInputs = true := by decide +kernel
def tb_X2_refuseWithoutProof : List (Nat × Instr × Nat) := [(0, .aload_n 0, 1), (1, .getfield 113, 4), (4, .ifCond .ne 13, 7), (7, .new 71, 10), (10, .dup, 11), (11, .ldc 158, 13), (13, .invokespecial 75, 16), (16, .athrow, 17), (17, .return_, 18)]
set_option maxRecDepth 100000 in
theorem ok_X2_refuseWithoutProof : tbOK cX2_refuseWithoutProof tb_X2_refuseWithoutProof = true := by decide +kernel
def tb_X2_refuseSetOutside : List (Nat × Instr × Nat) := [(0, .aload_n 0, 1), (1, .iload_n 1, 2), (2, .invokevirtual 63, 5), (5, .ifCond .ne 13, 8), (8, .new 120, 11), (11, .dup, 12), (12, .ldc 66, 14), (14, .invokespecial 124, 17), (17, .athrow, 18), (18, .return_, 19)]
set_option maxRecDepth 100000 in
theorem ok_X2_refuseSetOutside : tbOK cX2_refuseSetOutside tb_X2_refuseSetOutside = true := by decide +kernel
def tb_X2_lineAt : List (Nat × Instr × Nat) := [(0, .aload_n 0, 1), (1, .invokevirtual 136, 4), (4, .iload_n 1, 5), (5, .ifCond .lt 11, 8), (8, .iload_n 1, 9), (9, .aload_n 0, 10), (10, .getfield 113, 13), (13, .if_icmp .lt 13, 16), (16, .new 120, 19), (19, .dup, 20), (20, .ldc 160, 22), (22, .invokespecial 124, 25), (25, .athrow, 26), (26, .aload_n 0, 27), (27, .getfield 22, 30), (30, .iload_n 1, 31), (31, .aaload, 32), (32, .areturn, 33)]
set_option maxRecDepth 100000 in
theorem ok_X2_lineAt : tbOK cX2_lineAt tb_X2_lineAt = true := by decide +kernel
def tb_X2_isSet : List (Nat × Instr × Nat) := [(0, .iload_n 1, 1), (1, .ifCond .lt 17, 4), (4, .iload_n 1, 5), (5, .iconst 1, 6), (6, .aload_n 0, 7), (7, .getfield 37, 10), (10, .ishl, 11), (11, .if_icmp .ge 7, 14), (14, .iconst 1, 15), (15, .goto 4, 18), (18, .iconst 0, 19), (19, .ireturn, 20)]
set_option maxRecDepth 100000 in
theorem ok_X2_isSet : tbOK cX2_isSet tb_X2_isSet = true := by decide +kernel
def tb_X2_isLiteral : List (Nat × Instr × Nat) := [(0, .iload_n 1, 1), (1, .ifCond .lt 19, 4), (4, .iload_n 1, 5), (5, .iconst 2, 6), (6, .aload_n 0, 7), (7, .getfield 37, 10), (10, .imul, 11), (11, .iconst 1, 12), (12, .iadd, 13), (13, .if_icmp .gt 7, 16), (16, .iconst 1, 17), (17, .goto 4, 20), (20, .iconst 0, 21), (21, .ireturn, 22)]
set_option maxRecDepth 100000 in
theorem ok_X2_isLiteral : tbOK cX2_isLiteral tb_X2_isLiteral = true := by decide +kernel
def tb_X2_isGate : List (Nat × Instr × Nat) := [(0, .aload_n 0, 1), (1, .getfield 33, 4), (4, .iload_n 1, 5), (5, .invokestatic 40, 8), (8, .iand, 9), (9, .ifCond .ne 7, 12), (12, .iconst 1, 13), (13, .goto 4, 16), (16, .iconst 0, 17), (17, .ireturn, 18)]
set_option maxRecDepth 100000 in
theorem ok_X2_isGate : tbOK cX2_isGate tb_X2_isGate = true := by decide +kernel
def tb_X2_wiresThatAreOne : List (Nat × Instr × Nat) := [(0, .iload_n 1, 1), (1, .istore_n 2, 2), (2, .iconst 1, 3), (3, .istore_n 3, 4), (4, .iload_n 3, 5), (5, .aload_n 0, 6), (6, .getfield 37, 9), (9, .if_icmp .gt 40, 12), (12, .aload_n 0, 13), (13, .iload_n 3, 14), (14, .invokevirtual 98, 17), (17, .ifCond .eq 26, 20), (20, .aload_n 0, 21), (21, .getfield 11, 24), (24, .iload_n 3, 25), (25, .iconst 1, 26), (26, .isub, 27), (27, .aaload, 28), (28, .iload_n 2, 29), (29, .invokevirtual 162, 32), (32, .iconst 1, 33), (33, .if_icmp .ne 10, 36), (36, .iload_n 2, 37), (37, .iload_n 3, 38), (38, .invokestatic 40, 41), (41, .ior, 42), (42, .istore_n 2, 43), (43, .iinc 3 1, 46), (46, .goto (-42), 49), (49, .iload_n 2, 50), (50, .ireturn, 51)]
set_option maxRecDepth 100000 in
theorem ok_X2_wiresThatAreOne : tbOK cX2_wiresThatAreOne tb_X2_wiresThatAreOne = true := by decide +kernel
def tb_X2_bitOf : List (Nat × Instr × Nat) := [(0, .iconst 1, 1), (1, .iload_n 0, 2), (2, .iconst 1, 3), (3, .isub, 4), (4, .ishl, 5), (5, .ireturn, 6)]
set_option maxRecDepth 100000 in
theorem ok_X2_bitOf : tbOK cX2_bitOf tb_X2_bitOf = true := by decide +kernel
def tb_X3_init : List (Nat × Instr × Nat) := [(0, .aload_n 0, 1), (1, .invokespecial 1, 4), (4, .aload_n 0, 5), (5, .bipush 10, 7), (7, .newarray .int, 9), (9, .putfield 7, 12), (12, .aload_n 0, 13), (13, .bipush 10, 15), (15, .newarray .int, 17), (17, .putfield 13, 20), (20, .aload_n 0, 21), (21, .bipush 10, 23), (23, .newarray .int, 25), (25, .putfield 16, 28), (28, .aload_n 0, 29), (29, .bipush 10, 31), (31, .newarray .int, 33), (33, .putfield 19, 36), (36, .aload_n 0, 37), (37, .sipush 512, 40), (40, .newarray .long, 42), (42, .putfield 22, 45), (45, .aload_n 0, 46), (46, .bipush 10, 48), (48, .newarray .int, 50), (50, .putfield 26, 53), (53, .aload_n 0, 54), (54, .sipush 400, 57), (57, .newarray .int, 59), (59, .putfield 29, 62), (62, .aload_n 0, 63), (63, .sipush 400, 66), (66, .newarray .long, 68), (68, .putfield 32, 71), (71, .aload_n 0, 72), (72, .sipush 512, 75), (75, .newarray .long, 77), (77, .putfield 35, 80), (80, .aload_n 0, 81), (81, .sipush 512, 84), (84, .newarray .long, 86), (86, .putfield 38, 89), (89, .return_, 90)]
set_option maxRecDepth 100000 in
theorem ok_X3_init : tbOK cX3_init tb_X3_init = true := by decide +kernel
def tb_X3_thrown : List (Nat × Instr × Nat) := [(0, .aload_n 0, 1), (1, .getfield 41, 4), (4, .ireturn, 5)]
set_option maxRecDepth 100000 in
theorem ok_X3_thrown : tbOK cX3_thrown tb_X3_thrown = true := by decide +kernel
def tb_X3_within : List (Nat × Instr × Nat) := [(0, .iload_n 0, 1), (1, .iload_n 1, 2), (2, .if_icmp .lt 12, 5), (5, .iload_n 0, 6), (6, .iload_n 2, 7), (7, .if_icmp .gt 7, 10), (10, .iconst 1, 11), (11, .goto 4, 14), (14, .iconst 0, 15), (15, .ireturn, 16)]
set_option maxRecDepth 100000 in
theorem ok_X3_within : tbOK cX3_within tb_X3_within = true := by decide +kernel
def tb_X3_isSet : List (Nat × Instr × Nat) := [(0, .iload_n 1, 1), (1, .iconst 0, 2), (2, .iconst 1, 3), (3, .aload_n 0, 4), (4, .getfield 45, 7), (7, .ishl, 8), (8, .iconst 1, 9), (9, .isub, 10), (10, .invokestatic 48, 13), (13, .ireturn, 14)]
set_option maxRecDepth 100000 in
theorem ok_X3_isSet : tbOK cX3_isSet tb_X3_isSet = true := by decide +kernel
def tb_X3_input : List (Nat × Instr × Nat) := [(0, .aload_n 0, 1), (1, .aload_n 0, 2), (2, .getfield 45, 5), (5, .bipush 9, 7), (7, .if_icmp .ne 7, 10), (10, .iconst 1, 11), (11, .goto 4, 14), (14, .iconst 0, 15), (15, .putfield 41, 18), (18, .aload_n 0, 19), (19, .getfield 41, 22), (22, .ifCond .le 5, 25), (25, .iconst 0, 26), (26, .ireturn, 27), (27, .aload_n 0, 28), (28, .dup, 29), (29, .getfield 45, 32), (32, .iconst 1, 33), (33, .iadd, 34), (34, .putfield 45, 37), (37, .aload_n 0, 38), (38, .getfield 7, 41), (41, .aload_n 0, 42), (42, .getfield 45, 45), (45, .iconst (-1), 46), (46, .iastore, 47), (47, .aload_n 0, 48), (48, .iconst 0, 49), (49, .putfield 52, 52), (52, .aload_n 0, 53), (53, .getfield 45, 56), (56, .ireturn, 57)]
set_option maxRecDepth 100000 in
theorem ok_X3_input : tbOK cX3_input tb_X3_input = true := by decide +kernel
def tb_X3_isLiteral : List (Nat × Instr × Nat) := [(0, .iload_n 1, 1), (1, .iconst 0, 2), (2, .iconst 2, 3), (3, .aload_n 0, 4), (4, .getfield 45, 7), (7, .imul, 8), (8, .iconst 1, 9), (9, .iadd, 10), (10, .invokestatic 48, 13), (13, .ireturn, 14)]
set_option maxRecDepth 100000 in
theorem ok_X3_isLiteral : tbOK cX3_isLiteral tb_X3_isLiteral = true := by decide +kernel
def tb_X3_gate : List (Nat × Instr × Nat) := [(0, .iload_n 1, 1), (1, .iconst 0, 2), (2, .iconst 3, 3), (3, .invokestatic 48, 6), (6, .ifCond .eq 37, 9), (9, .aload_n 0, 10), (10, .iload_n 2, 11), (11, .invokevirtual 55, 14), (14, .ifCond .eq 29, 17), (17, .aload_n 0, 18), (18, .iload_n 3, 19), (19, .invokevirtual 55, 22), (22, .ifCond .eq 21, 25), (25, .iload_n 1, 26), (26, .iconst 2, 27), (27, .if_icmp .lt 12, 30), (30, .aload_n 0, 31), (31, .iload 4, 33), (33, .invokevirtual 55, 36), (36, .ifCond .eq 7, 39), (39, .iconst 1, 40), (40, .goto 4, 43), (43, .iconst 0, 44), (44, .istore 5, 46), (46, .aload_n 0, 47), (47, .iload 5, 49), (49, .ifCond .ne 7, 52), (52, .iconst 1, 53), (53, .goto 17, 56), (56, .aload_n 0, 57), (57, .getfield 45, 60), (60, .bipush 9, 62), (62, .if_icmp .ne 7, 65), (65, .iconst 2, 66), (66, .goto 4, 69), (69, .iconst 0, 70), (70, .putfield 41, 73), (73, .aload_n 0, 74), (74, .getfield 41, 77), (77, .ifCond .le 5, 80), (80, .iconst 0, 81), (81, .ireturn, 82), (82, .aload_n 0, 83), (83, .dup, 84), (84, .getfield 45, 87), (87, .iconst 1, 88), (88, .iadd, 89), (89, .putfield 45, 92), (92, .aload_n 0, 93), (93, .getfield 7, 96), (96, .aload_n 0, 97), (97, .getfield 45, 100), (100, .iload_n 1, 101), (101, .iastore, 102), (102, .aload_n 0, 103), (103, .getfield 13, 106), (106, .aload_n 0, 107), (107, .getfield 45, 110), (110, .iload_n 2, 111), (111, .iastore, 112), (112, .aload_n 0, 113), (113, .getfield 16, 116), (116, .aload_n 0, 117), (117, .getfield 45, 120), (120, .iload_n 3, 121), (121, .iastore, 122), (122, .aload_n 0, 123), (123, .getfield 19, 126), (126, .aload_n 0, 127), (127, .getfield 45, 130), (130, .iload 4, 132), (132, .iastore, 133), (133, .aload_n 0, 134), (134, .iconst 0, 135), (135, .putfield 52, 138), (138, .aload_n 0, 139), (139, .getfield 45, 142), (142, .ireturn, 143)]
set_option maxRecDepth 100000 in
theorem ok_X3_gate : tbOK cX3_gate tb_X3_gate = true := by decide +kernel
def tb_X3_wires : List (Nat × Instr × Nat) := [(0, .aload_n 0, 1), (1, .iconst 0, 2), (2, .putfield 41, 5), (5, .aload_n 0, 6), (6, .getfield 45, 9), (9, .ireturn, 10)]
set_option maxRecDepth 100000 in
theorem ok_X3_wires : tbOK cX3_wires tb_X3_wires = true := by decide +kernel
def tb_X3_literal : List (Nat × Instr × Nat) := [(0, .iload_n 0, 1), (1, .iconst 2, 2), (2, .if_icmp .ge 7, 5), (5, .iconst 0, 6), (6, .goto 12, 9), (9, .iload_n 1, 10), (10, .iload_n 0, 11), (11, .iconst 2, 12), (12, .idiv, 13), (13, .iconst 1, 14), (14, .isub, 15), (15, .ishr, 16), (16, .iconst 1, 17), (17, .iand, 18), (18, .istore_n 2, 19), (19, .iload_n 0, 20), (20, .iconst 2, 21), (21, .irem, 22), (22, .ifCond .ne 7, 25), (25, .iload_n 2, 26), (26, .goto 6, 29), (29, .iconst 1, 30), (30, .iload_n 2, 31), (31, .isub, 32), (32, .ireturn, 33)]
set_option maxRecDepth 100000 in
theorem ok_X3_literal : tbOK cX3_literal tb_X3_literal = true := by decide +kernel
def tb_X3_made : List (Nat × Instr × Nat) := [(0, .aload_n 0, 1), (1, .getfield 13, 4), (4, .iload_n 1, 5), (5, .iaload, 6), (6, .iload_n 2, 7), (7, .invokestatic 59, 10), (10, .istore_n 3, 11), (11, .aload_n 0, 12), (12, .getfield 16, 15), (15, .iload_n 1, 16), (16, .iaload, 17), (17, .iload_n 2, 18), (18, .invokestatic 59, 21), (21, .istore 4, 23), (23, .aload_n 0, 24), (24, .getfield 7, 27), (27, .iload_n 1, 28), (28, .iaload, 29), (29, .iconst 2, 30), (30, .if_icmp .ge 26, 33), (33, .aload_n 0, 34), (34, .getfield 7, 37), (37, .iload_n 1, 38), (38, .iaload, 39), (39, .ifCond .ne 10, 42), (42, .iload_n 3, 43), (43, .iload 4, 45), (45, .imul, 46), (46, .goto 9, 49), (49, .iload_n 3, 50), (50, .iload 4, 52), (52, .iadd, 53), (53, .iconst 2, 54), (54, .irem, 55), (55, .ireturn, 56), (56, .aload_n 0, 57), (57, .getfield 19, 60), (60, .iload_n 1, 61), (61, .iaload, 62), (62, .iload_n 2, 63), (63, .invokestatic 59, 66), (66, .istore 5, 68), (68, .aload_n 0, 69), (69, .getfield 7, 72), (72, .iload_n 1, 73), (73, .iaload, 74), (74, .iconst 2, 75), (75, .if_icmp .ne 18, 78), (78, .iload_n 3, 79), (79, .iconst 1, 80), (80, .if_icmp .ne 8, 83), (83, .iload 4, 85), (85, .goto 24, 88), (88, .iload 5, 90), (90, .goto 19, 93), (93, .iload_n 3, 94), (94, .iload 4, 96), (96, .iadd, 97), (97, .iload 5, 99), (99, .iadd, 100), (100, .iconst 1, 101), (101, .if_icmp .le 7, 104), (104, .iconst 1, 105), (105, .goto 4, 108), (108, .iconst 0, 109), (109, .ireturn, 110)]
set_option maxRecDepth 100000 in
theorem ok_X3_made : tbOK cX3_made tb_X3_made = true := by decide +kernel
def tb_X3_areInputs : List (Nat × Instr × Nat) := [(0, .aload_n 0, 1), (1, .iload_n 1, 2), (2, .invokevirtual 63, 5), (5, .ifCond .ne 5, 8), (8, .iconst 0, 9), (9, .ireturn, 10), (10, .iconst 1, 11), (11, .istore_n 2, 12), (12, .iconst 1, 13), (13, .istore_n 3, 14), (14, .iload_n 3, 15), (15, .aload_n 0, 16), (16, .getfield 45, 19), (19, .if_icmp .gt 38, 22), (22, .iload_n 2, 23), (23, .ifCond .eq 26, 26), (26, .aload_n 0, 27), (27, .getfield 7, 30), (30, .iload_n 3, 31), (31, .iaload, 32), (32, .ifCond .lt 13, 35), (35, .iload_n 1, 36), (36, .iload_n 3, 37), (37, .iconst 1, 38), (38, .isub, 39), (39, .ishr, 40), (40, .iconst 1, 41), (41, .iand, 42), (42, .ifCond .ne 7, 45), (45, .iconst 1, 46), (46, .goto 4, 49), (49, .iconst 0, 50), (50, .istore_n 2, 51), (51, .iinc 3 1, 54), (54, .goto (-40), 57), (57, .iload_n 2, 58), (58, .ireturn, 59)]
set_option maxRecDepth 100000 in
theorem ok_X3_areInputs : tbOK cX3_areInputs tb_X3_areInputs = true := by decide +kernel
def tb_X3_settled : List (Nat × Instr × Nat) := [(0, .iload_n 1, 1), (1, .istore_n 2, 2), (2, .iconst 1, 3), (3, .istore_n 3, 4), (4, .iload_n 3, 5), (5, .aload_n 0, 6), (6, .getfield 45, 9), (9, .if_icmp .gt 40, 12), (12, .aload_n 0, 13), (13, .getfield 7, 16), (16, .iload_n 3, 17), (17, .iaload, 18), (18, .ifCond .lt 23, 21), (21, .aload_n 0, 22), (22, .iload_n 3, 23), (23, .iload_n 2, 24), (24, .invokevirtual 66, 27), (27, .iconst 1, 28), (28, .if_icmp .ne 13, 31), (31, .iload_n 2, 32), (32, .iconst 1, 33), (33, .iload_n 3, 34), (34, .iconst 1, 35), (35, .isub, 36), (36, .ishl, 37), (37, .ior, 38), (38, .goto 4, 41), (41, .iload_n 2, 42), (42, .istore_n 2, 43), (43, .iinc 3 1, 46), (46, .goto (-42), 49), (49, .iload_n 2, 50), (50, .ireturn, 51)]
set_option maxRecDepth 100000 in
theorem ok_X3_settled : tbOK cX3_settled tb_X3_settled = true := by decide +kernel
def tb_X3_simulate : List (Nat × Instr × Nat) := [(0, .aload_n 0, 1), (1, .aload_n 0, 2), (2, .iload_n 1, 3), (3, .invokevirtual 69, 6), (6, .ifCond .eq 7, 9), (9, .iconst 0, 10), (10, .goto 4, 13), (13, .iconst 1, 14), (14, .putfield 41, 17), (17, .aload_n 0, 18), (18, .getfield 41, 21), (21, .ifCond .le 7, 24), (24, .iconst 0, 25), (25, .goto 8, 28), (28, .aload_n 0, 29), (29, .iload_n 1, 30), (30, .invokevirtual 72, 33), (33, .ireturn, 34)]
set_option maxRecDepth 100000 in
theorem ok_X3_simulate : tbOK cX3_simulate tb_X3_simulate = true := by decide +kernel
def tb_X3_claimed : List (Nat × Instr × Nat) := [(0, .lconst 0, 1), (1, .lstore_n 2, 2), (2, .iconst 0, 3), (3, .istore 4, 5), (5, .iload 4, 7), (7, .iconst 1, 8), (8, .aload_n 0, 9), (9, .getfield 45, 12), (12, .ishl, 13), (13, .if_icmp .ge 32, 16), (16, .iload 4, 18), (18, .iload_n 1, 19), (19, .iand, 20), (20, .iload 4, 22), (22, .if_icmp .ne 15, 25), (25, .lload_n 2, 26), (26, .aload_n 0, 27), (27, .getfield 22, 30), (30, .iload 4, 32), (32, .laload, 33), (33, .ladd, 34), (34, .goto 4, 37), (37, .lload_n 2, 38), (38, .lstore_n 2, 39), (39, .iinc 4 1, 42), (42, .goto (-37), 45), (45, .lload_n 2, 46), (46, .lreturn, 47)]
set_option maxRecDepth 100000 in
theorem ok_X3_claimed : tbOK cX3_claimed tb_X3_claimed = true := by decide +kernel
def tb_X3_evaluate : List (Nat × Instr × Nat) := [(0, .aload_n 0, 1), (1, .aload_n 0, 2), (2, .iload_n 1, 3), (3, .invokevirtual 69, 6), (6, .ifCond .eq 7, 9), (9, .iconst 0, 10), (10, .goto 4, 13), (13, .iconst 1, 14), (14, .putfield 41, 17), (17, .aload_n 0, 18), (18, .getfield 41, 21), (21, .ifCond .le 7, 24), (24, .lconst 0, 25), (25, .goto 12, 28), (28, .aload_n 0, 29), (29, .aload_n 0, 30), (30, .iload_n 1, 31), (31, .invokevirtual 72, 34), (34, .invokevirtual 76, 37), (37, .lreturn, 38)]
set_option maxRecDepth 100000 in
theorem ok_X3_evaluate : tbOK cX3_evaluate tb_X3_evaluate = true := by decide +kernel
def tb_X3_add : List (Nat × Instr × Nat) := [(0, .aload_n 0, 1), (1, .aload_n 0, 2), (2, .iload_n 1, 3), (3, .invokevirtual 63, 6), (6, .ifCond .ne 7, 9), (9, .iconst 1, 10), (10, .goto 17, 13), (13, .aload_n 0, 14), (14, .getfield 80, 17), (17, .bipush 40, 19), (19, .if_icmp .ne 7, 22), (22, .iconst 2, 23), (23, .goto 4, 26), (26, .iconst 0, 27), (27, .putfield 41, 30), (30, .aload_n 0, 31), (31, .getfield 41, 34), (34, .ifCond .le 5, 37), (37, .iconst 0, 38), (38, .ireturn, 39), (39, .aload_n 0, 40), (40, .getfield 22, 43), (43, .iload_n 1, 44), (44, .aload_n 0, 45), (45, .getfield 22, 48), (48, .iload_n 1, 49), (49, .laload, 50), (50, .iload_n 2, 51), (51, .i2l, 52), (52, .ladd, 53), (53, .lastore, 54), (54, .aload_n 0, 55), (55, .dup, 56), (56, .getfield 80, 59), (59, .iconst 1, 60), (60, .iadd, 61), (61, .putfield 80, 64), (64, .aload_n 0, 65), (65, .iconst 0, 66), (66, .putfield 52, 69), (69, .aload_n 0, 70), (70, .getfield 80, 73), (73, .ireturn, 74)]
set_option maxRecDepth 100000 in
theorem ok_X3_add : tbOK cX3_add tb_X3_add = true := by decide +kernel
def tb_X3_coefficients : List (Nat × Instr × Nat) := [(0, .iconst 1, 1), (1, .aload_n 0, 2), (2, .getfield 45, 5), (5, .ishl, 6), (6, .istore_n 1, 7), (7, .iconst 1, 8), (8, .istore_n 2, 9), (9, .iload_n 2, 10), (10, .iload_n 1, 11), (11, .if_icmp .ge 59, 14), (14, .iconst 0, 15), (15, .istore_n 3, 16), (16, .iload_n 3, 17), (17, .iload_n 1, 18), (18, .if_icmp .ge 45, 21), (21, .aload_n 0, 22), (22, .getfield 35, 25), (25, .iload_n 3, 26), (26, .iload_n 3, 27), (27, .iload_n 2, 28), (28, .iand, 29), (29, .ifCond .eq 21, 32), (32, .aload_n 0, 33), (33, .getfield 35, 36), (36, .iload_n 3, 37), (37, .laload, 38), (38, .aload_n 0, 39), (39, .getfield 35, 42), (42, .iload_n 3, 43), (43, .iload_n 2, 44), (44, .ixor, 45), (45, .laload, 46), (46, .lsub, 47), (47, .goto 9, 50), (50, .aload_n 0, 51), (51, .getfield 35, 54), (54, .iload_n 3, 55), (55, .laload, 56), (56, .lastore, 57), (57, .iinc 3 1, 60), (60, .goto (-44), 63), (63, .iconst 2, 64), (64, .iload_n 2, 65), (65, .imul, 66), (66, .istore_n 2, 67), (67, .goto (-58), 70), (70, .iconst 0, 71), (71, .istore_n 2, 72), (72, .iconst 0, 73), (73, .istore_n 3, 74), (74, .iload_n 3, 75), (75, .iload_n 1, 76), (76, .if_icmp .ge 28, 79), (79, .aload_n 0, 80), (80, .getfield 35, 83), (83, .iload_n 3, 84), (84, .laload, 85), (85, .lconst 0, 86), (86, .lcmp, 87), (87, .ifCond .eq 9, 90), (90, .iload_n 2, 91), (91, .iconst 1, 92), (92, .iadd, 93), (93, .goto 4, 96), (96, .iload_n 2, 97), (97, .istore_n 2, 98), (98, .iinc 3 1, 101), (101, .goto (-27), 104), (104, .iload_n 2, 105), (105, .ireturn, 106)]
set_option maxRecDepth 100000 in
theorem ok_X3_coefficients : tbOK cX3_coefficients tb_X3_coefficients = true := by decide +kernel
def tb_X3_find : List (Nat × Instr × Nat) := [(0, .bipush 40, 2), (2, .iload_n 1, 3), (3, .imul, 4), (4, .istore_n 3, 5), (5, .iload_n 3, 6), (6, .bipush 40, 8), (8, .iload_n 1, 9), (9, .imul, 10), (10, .aload_n 0, 11), (11, .getfield 26, 14), (14, .iload_n 1, 15), (15, .iaload, 16), (16, .iadd, 17), (17, .if_icmp .ge 21, 20), (20, .aload_n 0, 21), (21, .getfield 29, 24), (24, .iload_n 3, 25), (25, .iaload, 26), (26, .iload_n 2, 27), (27, .if_icmp .ne 5, 30), (30, .iload_n 3, 31), (31, .ireturn, 32), (32, .iinc 3 1, 35), (35, .goto (-30), 38), (38, .iconst (-1), 39), (39, .ireturn, 40)]
set_option maxRecDepth 100000 in
theorem ok_X3_find : tbOK cX3_find tb_X3_find = true := by decide +kernel
def tb_X3_has : List (Nat × Instr × Nat) := [(0, .aload_n 0, 1), (1, .iload_n 1, 2), (2, .iload_n 2, 3), (3, .invokevirtual 83, 6), (6, .istore_n 3, 7), (7, .iload_n 3, 8), (8, .ifCond .ge 7, 11), (11, .lconst 0, 12), (12, .goto 9, 15), (15, .aload_n 0, 16), (16, .getfield 32, 19), (19, .iload_n 3, 20), (20, .laload, 21), (21, .lreturn, 22)]
set_option maxRecDepth 100000 in
theorem ok_X3_has : tbOK cX3_has tb_X3_has = true := by decide +kernel
def tb_X3_values : List (Nat × Instr × Nat) := [(0, .iconst 0, 1), (1, .istore_n 2, 2), (2, .iload_n 2, 3), (3, .iconst 1, 4), (4, .aload_n 0, 5), (5, .getfield 45, 8), (8, .ishl, 9), (9, .if_icmp .ge 87, 12), (12, .aload_n 0, 13), (13, .getfield 38, 16), (16, .iload_n 2, 17), (17, .lconst 0, 18), (18, .lastore, 19), (19, .bipush 40, 21), (21, .iload_n 1, 22), (22, .imul, 23), (23, .istore_n 3, 24), (24, .iload_n 3, 25), (25, .bipush 40, 27), (27, .iload_n 1, 28), (28, .imul, 29), (29, .aload_n 0, 30), (30, .getfield 26, 33), (33, .iload_n 1, 34), (34, .iaload, 35), (35, .iadd, 36), (36, .if_icmp .ge 54, 39), (39, .aload_n 0, 40), (40, .getfield 38, 43), (43, .iload_n 2, 44), (44, .aload_n 0, 45), (45, .getfield 29, 48), (48, .iload_n 3, 49), (49, .iaload, 50), (50, .iload_n 2, 51), (51, .iand, 52), (52, .aload_n 0, 53), (53, .getfield 29, 56), (56, .iload_n 3, 57), (57, .iaload, 58), (58, .if_icmp .ne 19, 61), (61, .aload_n 0, 62), (62, .getfield 38, 65), (65, .iload_n 2, 66), (66, .laload, 67), (67, .aload_n 0, 68), (68, .getfield 32, 71), (71, .iload_n 3, 72), (72, .laload, 73), (73, .ladd, 74), (74, .goto 9, 77), (77, .aload_n 0, 78), (78, .getfield 38, 81), (81, .iload_n 2, 82), (82, .laload, 83), (83, .lastore, 84), (84, .iinc 3 1, 87), (87, .goto (-63), 90), (90, .iinc 2 1, 93), (93, .goto (-91), 96), (96, .return_, 97)]
set_option maxRecDepth 100000 in
theorem ok_X3_values : tbOK cX3_values tb_X3_values = true := by decide +kernel
def tb_X3_redirected : List (Nat × Instr × Nat) := [(0, .iconst 1, 1), (1, .iload_n 1, 2), (2, .iconst 1, 3), (3, .isub, 4), (4, .ishl, 5), (5, .istore_n 3, 6), (6, .aload_n 0, 7), (7, .iload_n 1, 8), (8, .iload_n 2, 9), (9, .invokevirtual 66, 12), (12, .iconst 1, 13), (13, .if_icmp .ne 9, 16), (16, .iload_n 2, 17), (17, .iload_n 3, 18), (18, .ior, 19), (19, .goto 8, 22), (22, .iload_n 2, 23), (23, .iload_n 3, 24), (24, .iconst (-1), 25), (25, .ixor, 26), (26, .iand, 27), (27, .ireturn, 28)]
set_option maxRecDepth 100000 in
theorem ok_X3_redirected : tbOK cX3_redirected tb_X3_redirected = true := by decide +kernel
def tb_X3_gateWire : List (Nat × Instr × Nat) := [(0, .iload_n 1, 1), (1, .istore_n 2, 2), (2, .aload_n 0, 3), (3, .getfield 45, 6), (6, .istore_n 3, 7), (7, .iload_n 3, 8), (8, .iconst 1, 9), (9, .if_icmp .lt 32, 12), (12, .aload_n 0, 13), (13, .getfield 7, 16), (16, .iload_n 3, 17), (17, .iaload, 18), (18, .ifCond .lt 9, 21), (21, .iload_n 2, 22), (22, .iconst 1, 23), (23, .isub, 24), (24, .goto 4, 27), (27, .iload_n 2, 28), (28, .istore_n 2, 29), (29, .iload_n 2, 30), (30, .ifCond .ne 5, 33), (33, .iload_n 3, 34), (34, .ireturn, 35), (35, .iinc 3 (-1), 38), (38, .goto (-31), 41), (41, .iconst 0, 42), (42, .ireturn, 43)]
set_option maxRecDepth 100000 in
theorem ok_X3_gateWire : tbOK cX3_gateWire tb_X3_gateWire = true := by decide +kernel
def tb_X3_gates : List (Nat × Instr × Nat) := [(0, .iconst 0, 1), (1, .istore_n 1, 2), (2, .iconst 1, 3), (3, .istore_n 2, 4), (4, .iload_n 2, 5), (5, .aload_n 0, 6), (6, .getfield 45, 9), (9, .if_icmp .gt 26, 12), (12, .aload_n 0, 13), (13, .getfield 7, 16), (16, .iload_n 2, 17), (17, .iaload, 18), (18, .ifCond .lt 9, 21), (21, .iload_n 1, 22), (22, .iconst 1, 23), (23, .iadd, 24), (24, .goto 4, 27), (27, .iload_n 1, 28), (28, .istore_n 1, 29), (29, .iinc 2 1, 32), (32, .goto (-28), 35), (35, .iload_n 1, 36), (36, .ireturn, 37)]
set_option maxRecDepth 100000 in
theorem ok_X3_gates : tbOK cX3_gates tb_X3_gates = true := by decide +kernel
def tb_X3_keep : List (Nat × Instr × Nat) := [(0, .aload_n 0, 1), (1, .getfield 26, 4), (4, .iload_n 1, 5), (5, .iconst 0, 6), (6, .iastore, 7), (7, .iconst 0, 8), (8, .istore_n 2, 9), (9, .iload_n 2, 10), (10, .iconst 1, 11), (11, .aload_n 0, 12), (12, .getfield 45, 15), (15, .ishl, 16), (16, .if_icmp .ge 73, 19), (19, .aload_n 0, 20), (20, .getfield 35, 23), (23, .iload_n 2, 24), (24, .laload, 25), (25, .lconst 0, 26), (26, .lcmp, 27), (27, .ifCond .eq 56, 30), (30, .aload_n 0, 31), (31, .getfield 29, 34), (34, .bipush 40, 36), (36, .iload_n 1, 37), (37, .imul, 38), (38, .aload_n 0, 39), (39, .getfield 26, 42), (42, .iload_n 1, 43), (43, .iaload, 44), (44, .iadd, 45), (45, .iload_n 2, 46), (46, .iastore, 47), (47, .aload_n 0, 48), (48, .getfield 32, 51), (51, .bipush 40, 53), (53, .iload_n 1, 54), (54, .imul, 55), (55, .aload_n 0, 56), (56, .getfield 26, 59), (59, .iload_n 1, 60), (60, .iaload, 61), (61, .iadd, 62), (62, .aload_n 0, 63), (63, .getfield 35, 66), (66, .iload_n 2, 67), (67, .laload, 68), (68, .lastore, 69), (69, .aload_n 0, 70), (70, .getfield 26, 73), (73, .iload_n 1, 74), (74, .aload_n 0, 75), (75, .getfield 26, 78), (78, .iload_n 1, 79), (79, .iaload, 80), (80, .iconst 1, 81), (81, .iadd, 82), (82, .iastore, 83), (83, .iinc 2 1, 86), (86, .goto (-77), 89), (89, .return_, 90)]
set_option maxRecDepth 100000 in
theorem ok_X3_keep : tbOK cX3_keep tb_X3_keep = true := by decide +kernel
def tb_X3_eliminated : List (Nat × Instr × Nat) := [(0, .iconst 0, 1), (1, .istore_n 2, 2), (2, .iload_n 2, 3), (3, .iconst 1, 4), (4, .aload_n 0, 5), (5, .getfield 45, 8), (8, .ishl, 9), (9, .if_icmp .ge 26, 12), (12, .aload_n 0, 13), (13, .getfield 35, 16), (16, .iload_n 2, 17), (17, .aload_n 0, 18), (18, .getfield 38, 21), (21, .aload_n 0, 22), (22, .iload_n 1, 23), (23, .iload_n 2, 24), (24, .invokevirtual 86, 27), (27, .laload, 28), (28, .lastore, 29), (29, .iinc 2 1, 32), (32, .goto (-30), 35), (35, .iconst 0, 36), (36, .istore_n 2, 37), (37, .iload_n 2, 38), (38, .iconst 1, 39), (39, .aload_n 0, 40), (40, .getfield 45, 43), (43, .ishl, 44), (44, .if_icmp .ge 21, 47), (47, .aload_n 0, 48), (48, .getfield 38, 51), (51, .iload_n 2, 52), (52, .aload_n 0, 53), (53, .getfield 35, 56), (56, .iload_n 2, 57), (57, .laload, 58), (58, .lastore, 59), (59, .iinc 2 1, 62), (62, .goto (-25), 65), (65, .aload_n 0, 66), (66, .invokevirtual 89, 69), (69, .ireturn, 70)]
set_option maxRecDepth 100000 in
theorem ok_X3_eliminated : tbOK cX3_eliminated tb_X3_eliminated = true := by decide +kernel
def tb_X3_derived : List (Nat × Instr × Nat) := [(0, .iconst 0, 1), (1, .istore_n 2, 2), (2, .iload_n 2, 3), (3, .iconst 1, 4), (4, .aload_n 0, 5), (5, .getfield 45, 8), (8, .ishl, 9), (9, .if_icmp .ge 32, 12), (12, .aload_n 0, 13), (13, .getfield 38, 16), (16, .iload_n 2, 17), (17, .aload_n 0, 18), (18, .iload_n 2, 19), (19, .invokevirtual 76, 22), (22, .lastore, 23), (23, .aload_n 0, 24), (24, .getfield 35, 27), (27, .iload_n 2, 28), (28, .aload_n 0, 29), (29, .getfield 22, 32), (32, .iload_n 2, 33), (33, .laload, 34), (34, .lastore, 35), (35, .iinc 2 1, 38), (38, .goto (-36), 41), (41, .iconst 0, 42), (42, .istore_n 2, 43), (43, .iload_n 2, 44), (44, .aload_n 0, 45), (45, .invokevirtual 93, 48), (48, .if_icmp .gt 38, 51), (51, .iload_n 2, 52), (52, .ifCond .le 19, 55), (55, .aload_n 0, 56), (56, .aload_n 0, 57), (57, .iload_n 2, 58), (58, .invokevirtual 96, 61), (61, .invokevirtual 99, 64), (64, .bipush 40, 66), (66, .if_icmp .le 5, 69), (69, .iconst 0, 70), (70, .ireturn, 71), (71, .iload_n 1, 72), (72, .ifCond .eq 8, 75), (75, .aload_n 0, 76), (76, .iload_n 2, 77), (77, .invokevirtual 102, 80), (80, .iinc 2 1, 83), (83, .goto (-40), 86), (86, .iconst 1, 87), (87, .ireturn, 88)]
set_option maxRecDepth 100000 in
theorem ok_X3_derived : tbOK cX3_derived tb_X3_derived = true := by decide +kernel
def tb_X3_prove : List (Nat × Instr × Nat) := [(0, .aload_n 0, 1), (1, .aload_n 0, 2), (2, .iconst 0, 3), (3, .invokevirtual 106, 6), (6, .ifCond .eq 7, 9), (9, .iconst 0, 10), (10, .goto 4, 13), (13, .iconst 1, 14), (14, .putfield 41, 17), (17, .aload_n 0, 18), (18, .getfield 41, 21), (21, .ifCond .gt 11, 24), (24, .aload_n 0, 25), (25, .iconst 1, 26), (26, .invokevirtual 106, 29), (29, .ifCond .ne 5, 32), (32, .iconst 0, 33), (33, .ireturn, 34), (34, .aload_n 0, 35), (35, .aload_n 0, 36), (36, .invokevirtual 93, 39), (39, .iconst 1, 40), (40, .iadd, 41), (41, .putfield 52, 44), (44, .aload_n 0, 45), (45, .getfield 26, 48), (48, .aload_n 0, 49), (49, .getfield 52, 52), (52, .iconst 1, 53), (53, .isub, 54), (54, .iaload, 55), (55, .ireturn, 56)]
set_option maxRecDepth 100000 in
theorem ok_X3_prove : tbOK cX3_prove tb_X3_prove = true := by decide +kernel
def tb_X3_lines : List (Nat × Instr × Nat) := [(0, .aload_n 0, 1), (1, .iconst 0, 2), (2, .putfield 41, 5), (5, .aload_n 0, 6), (6, .getfield 52, 9), (9, .ireturn, 10)]
set_option maxRecDepth 100000 in
theorem ok_X3_lines : tbOK cX3_lines tb_X3_lines = true := by decide +kernel
def tb_X3_lack : List (Nat × Instr × Nat) := [(0, .aload_n 0, 1), (1, .getfield 52, 4), (4, .ifCond .ne 7, 7), (7, .iconst 1, 8), (8, .goto 22, 11), (11, .iload_n 1, 12), (12, .iconst 0, 13), (13, .aload_n 0, 14), (14, .getfield 52, 17), (17, .iconst 1, 18), (18, .isub, 19), (19, .invokestatic 48, 22), (22, .ifCond .eq 7, 25), (25, .iconst 0, 26), (26, .goto 4, 29), (29, .iconst 2, 30), (30, .ireturn, 31)]
set_option maxRecDepth 100000 in
theorem ok_X3_lack : tbOK cX3_lack tb_X3_lack = true := by decide +kernel
def tb_X3_size : List (Nat × Instr × Nat) := [(0, .aload_n 0, 1), (1, .aload_n 0, 2), (2, .iload_n 1, 3), (3, .invokevirtual 110, 6), (6, .putfield 41, 9), (9, .aload_n 0, 10), (10, .getfield 41, 13), (13, .ifCond .le 7, 16), (16, .iconst 0, 17), (17, .goto 9, 20), (20, .aload_n 0, 21), (21, .getfield 26, 24), (24, .iload_n 1, 25), (25, .iaload, 26), (26, .ireturn, 27)]
set_option maxRecDepth 100000 in
theorem ok_X3_size : tbOK cX3_size tb_X3_size = true := by decide +kernel
def tb_X3_monomial : List (Nat × Instr × Nat) := [(0, .aload_n 0, 1), (1, .aload_n 0, 2), (2, .iload_n 1, 3), (3, .invokevirtual 110, 6), (6, .putfield 41, 9), (9, .aload_n 0, 10), (10, .aload_n 0, 11), (11, .getfield 41, 14), (14, .ifCond .ne 23, 17), (17, .iload_n 2, 18), (18, .iconst 0, 19), (19, .aload_n 0, 20), (20, .getfield 26, 23), (23, .iload_n 1, 24), (24, .iaload, 25), (25, .iconst 1, 26), (26, .isub, 27), (27, .invokestatic 48, 30), (30, .ifCond .ne 7, 33), (33, .iconst 2, 34), (34, .goto 7, 37), (37, .aload_n 0, 38), (38, .getfield 41, 41), (41, .putfield 41, 44), (44, .iload_n 2, 45), (45, .istore_n 3, 46), (46, .iconst 1, 47), (47, .aload_n 0, 48), (48, .getfield 45, 51), (51, .ishl, 52), (52, .iconst 1, 53), (53, .isub, 54), (54, .istore 4, 56), (56, .iload 4, 58), (58, .ifCond .lt 36, 61), (61, .aload_n 0, 62), (62, .getfield 41, 65), (65, .ifCond .ne 29, 68), (68, .aload_n 0, 69), (69, .iload_n 1, 70), (70, .iload 4, 72), (72, .invokevirtual 83, 75), (75, .ifCond .lt 13, 78), (78, .iload_n 3, 79), (79, .ifCond .ne 6, 82), (82, .iload 4, 84), (84, .ireturn, 85), (85, .iinc 3 (-1), 88), (88, .iinc 4 (-1), 91), (91, .goto (-35), 94), (94, .iconst 0, 95), (95, .ireturn, 96)]
set_option maxRecDepth 100000 in
theorem ok_X3_monomial : tbOK cX3_monomial tb_X3_monomial = true := by decide +kernel
def tb_X3_coefficient : List (Nat × Instr × Nat) := [(0, .aload_n 0, 1), (1, .aload_n 0, 2), (2, .iload_n 1, 3), (3, .invokevirtual 110, 6), (6, .putfield 41, 9), (9, .aload_n 0, 10), (10, .aload_n 0, 11), (11, .getfield 41, 14), (14, .ifCond .ne 15, 17), (17, .aload_n 0, 18), (18, .iload_n 2, 19), (19, .invokevirtual 63, 22), (22, .ifCond .ne 7, 25), (25, .iconst 2, 26), (26, .goto 7, 29), (29, .aload_n 0, 30), (30, .getfield 41, 33), (33, .putfield 41, 36), (36, .aload_n 0, 37), (37, .getfield 41, 40), (40, .ifCond .le 7, 43), (43, .lconst 0, 44), (44, .goto 9, 47), (47, .aload_n 0, 48), (48, .iload_n 1, 49), (49, .iload_n 2, 50), (50, .invokevirtual 113, 53), (53, .lreturn, 54)]
set_option maxRecDepth 100000 in
theorem ok_X3_coefficient : tbOK cX3_coefficient tb_X3_coefficient = true := by decide +kernel
def tb_X3_spoil : List (Nat × Instr × Nat) := [(0, .aload_n 0, 1), (1, .aload_n 0, 2), (2, .iload_n 1, 3), (3, .invokevirtual 110, 6), (6, .putfield 41, 9), (9, .aload_n 0, 10), (10, .aload_n 0, 11), (11, .getfield 41, 14), (14, .ifCond .ne 15, 17), (17, .aload_n 0, 18), (18, .iload_n 2, 19), (19, .invokevirtual 63, 22), (22, .ifCond .ne 7, 25), (25, .iconst 2, 26), (26, .goto 7, 29), (29, .aload_n 0, 30), (30, .getfield 41, 33), (33, .putfield 41, 36), (36, .aload_n 0, 37), (37, .getfield 41, 40), (40, .ifCond .le 5, 43), (43, .lconst 0, 44), (44, .lreturn, 45), (45, .aload_n 0, 46), (46, .iload_n 1, 47), (47, .iload_n 2, 48), (48, .invokevirtual 113, 51), (51, .iload_n 3, 52), (52, .i2l, 53), (53, .ladd, 54), (54, .lstore 4, 56), (56, .aload_n 0, 57), (57, .iload_n 1, 58), (58, .iload_n 2, 59), (59, .invokevirtual 83, 62), (62, .istore 6, 64), (64, .iload 6, 66), (66, .ifCond .ge 63, 69), (69, .lload 4, 71), (71, .lconst 0, 72), (72, .lcmp, 73), (73, .ifCond .eq 56, 76), (76, .aload_n 0, 77), (77, .getfield 26, 80), (80, .iload_n 1, 81), (81, .iaload, 82), (82, .bipush 40, 84), (84, .if_icmp .ne 10, 87), (87, .aload_n 0, 88), (88, .iconst 3, 89), (89, .putfield 41, 92), (92, .lconst 0, 93), (93, .lreturn, 94), (94, .bipush 40, 96), (96, .iload_n 1, 97), (97, .imul, 98), (98, .aload_n 0, 99), (99, .getfield 26, 102), (102, .iload_n 1, 103), (103, .iaload, 104), (104, .iadd, 105), (105, .istore 6, 107), (107, .aload_n 0, 108), (108, .getfield 26, 111), (111, .iload_n 1, 112), (112, .aload_n 0, 113), (113, .getfield 26, 116), (116, .iload_n 1, 117), (117, .iaload, 118), (118, .iconst 1, 119), (119, .iadd, 120), (120, .iastore, 121), (121, .aload_n 0, 122), (122, .getfield 29, 125), (125, .iload 6, 127), (127, .iload_n 2, 128), (128, .iastore, 129), (129, .iload 6, 131), (131, .ifCond .lt 12, 134), (134, .aload_n 0, 135), (135, .getfield 32, 138), (138, .iload 6, 140), (140, .lload 4, 142), (142, .lastore, 143), (143, .iload 6, 145), (145, .ifCond .lt 70, 148), (148, .lload 4, 150), (150, .lconst 0, 151), (151, .lcmp, 152), (152, .ifCond .ne 63, 155), (155, .aload_n 0, 156), (156, .getfield 26, 159), (159, .iload_n 1, 160), (160, .aload_n 0, 161), (161, .getfield 26, 164), (164, .iload_n 1, 165), (165, .iaload, 166), (166, .iconst 1, 167), (167, .isub, 168), (168, .iastore, 169), (169, .aload_n 0, 170), (170, .getfield 29, 173), (173, .iload 6, 175), (175, .aload_n 0, 176), (176, .getfield 29, 179), (179, .bipush 40, 181), (181, .iload_n 1, 182), (182, .imul, 183), (183, .aload_n 0, 184), (184, .getfield 26, 187), (187, .iload_n 1, 188), (188, .iaload, 189), (189, .iadd, 190), (190, .iaload, 191), (191, .iastore, 192), (192, .aload_n 0, 193), (193, .getfield 32, 196), (196, .iload 6, 198), (198, .aload_n 0, 199), (199, .getfield 32, 202), (202, .bipush 40, 204), (204, .iload_n 1, 205), (205, .imul, 206), (206, .aload_n 0, 207), (207, .getfield 26, 210), (210, .iload_n 1, 211), (211, .iaload, 212), (212, .iadd, 213), (213, .laload, 214), (214, .lastore, 215), (215, .lload 4, 217), (217, .lreturn, 218)]
set_option maxRecDepth 100000 in
theorem ok_X3_spoil : tbOK cX3_spoil tb_X3_spoil = true := by decide +kernel
def tb_X3_right : List (Nat × Instr × Nat) := [(0, .iconst 0, 1), (1, .istore_n 2, 2), (2, .iload_n 2, 3), (3, .iconst 1, 4), (4, .aload_n 0, 5), (5, .getfield 45, 8), (8, .ishl, 9), (9, .if_icmp .ge 21, 12), (12, .aload_n 0, 13), (13, .getfield 35, 16), (16, .iload_n 2, 17), (17, .aload_n 0, 18), (18, .getfield 22, 21), (21, .iload_n 2, 22), (22, .laload, 23), (23, .lastore, 24), (24, .iinc 2 1, 27), (27, .goto (-25), 30), (30, .iload_n 1, 31), (31, .ifCond .le 20, 34), (34, .aload_n 0, 35), (35, .iload_n 1, 36), (36, .iconst 1, 37), (37, .isub, 38), (38, .invokevirtual 117, 41), (41, .aload_n 0, 42), (42, .aload_n 0, 43), (43, .iload_n 1, 44), (44, .invokevirtual 96, 47), (47, .invokevirtual 99, 50), (50, .pop, 51), (51, .iconst 1, 52), (52, .istore_n 2, 53), (53, .iconst 0, 54), (54, .istore_n 3, 55), (55, .iload_n 3, 56), (56, .iconst 1, 57), (57, .aload_n 0, 58), (58, .getfield 45, 61), (61, .ishl, 62), (62, .if_icmp .ge 35, 65), (65, .iload_n 2, 66), (66, .ifCond .eq 23, 69), (69, .aload_n 0, 70), (70, .getfield 35, 73), (73, .iload_n 3, 74), (74, .laload, 75), (75, .aload_n 0, 76), (76, .iload_n 1, 77), (77, .iload_n 3, 78), (78, .invokevirtual 113, 81), (81, .lcmp, 82), (82, .ifCond .ne 7, 85), (85, .iconst 1, 86), (86, .goto 4, 89), (89, .iconst 0, 90), (90, .istore_n 2, 91), (91, .iinc 3 1, 94), (94, .goto (-39), 97), (97, .iload_n 2, 98), (98, .ireturn, 99)]
set_option maxRecDepth 100000 in
theorem ok_X3_right : tbOK cX3_right tb_X3_right = true := by decide +kernel
def tb_X3_check : List (Nat × Instr × Nat) := [(0, .aload_n 0, 1), (1, .aload_n 0, 2), (2, .getfield 52, 5), (5, .ifCond .ne 7, 8), (8, .iconst 1, 9), (9, .goto 4, 12), (12, .iconst 0, 13), (13, .putfield 41, 16), (16, .iconst 0, 17), (17, .istore_n 1, 18), (18, .iload_n 1, 19), (19, .aload_n 0, 20), (20, .getfield 52, 23), (23, .if_icmp .ge 17, 26), (26, .aload_n 0, 27), (27, .iload_n 1, 28), (28, .invokevirtual 120, 31), (31, .ifCond .eq 9, 34), (34, .iinc 1 1, 37), (37, .goto (-19), 40), (40, .iload_n 1, 41), (41, .ireturn, 42)]
set_option maxRecDepth 100000 in
theorem ok_X3_check : tbOK cX3_check tb_X3_check = true := by decide +kernel
def tb_X3_many : List (Nat × Instr × Nat) := [(0, .iconst 0, 1), (1, .istore_n 1, 2), (2, .iconst 0, 3), (3, .istore_n 2, 4), (4, .iload_n 2, 5), (5, .bipush 9, 7), (7, .if_icmp .ge 17, 10), (10, .iload_n 1, 11), (11, .iload_n 0, 12), (12, .iload_n 2, 13), (13, .ishr, 14), (14, .iconst 1, 15), (15, .iand, 16), (16, .iadd, 17), (17, .istore_n 1, 18), (18, .iinc 2 1, 21), (21, .goto (-17), 24), (24, .iload_n 1, 25), (25, .ireturn, 26)]
set_option maxRecDepth 100000 in
theorem ok_X3_many : tbOK cX3_many tb_X3_many = true := by decide +kernel
def tb_X3_witness : List (Nat × Instr × Nat) := [(0, .aload_n 0, 1), (1, .aload_n 0, 2), (2, .getfield 52, 5), (5, .ifCond .ne 7, 8), (8, .iconst 1, 9), (9, .goto 22, 12), (12, .aload_n 0, 13), (13, .getfield 26, 16), (16, .aload_n 0, 17), (17, .getfield 52, 20), (20, .iconst 1, 21), (21, .isub, 22), (22, .iaload, 23), (23, .ifCond .ne 7, 26), (26, .iconst 2, 27), (27, .goto 4, 30), (30, .iconst 0, 31), (31, .putfield 41, 34), (34, .iconst (-1), 35), (35, .istore_n 1, 36), (36, .iconst 0, 37), (37, .istore_n 2, 38), (38, .iload_n 2, 39), (39, .iconst 1, 40), (40, .aload_n 0, 41), (41, .getfield 45, 44), (44, .ishl, 45), (45, .if_icmp .ge 51, 48), (48, .aload_n 0, 49), (49, .getfield 41, 52), (52, .ifCond .ne 44, 55), (55, .aload_n 0, 56), (56, .aload_n 0, 57), (57, .getfield 52, 60), (60, .iconst 1, 61), (61, .isub, 62), (62, .iload_n 2, 63), (63, .invokevirtual 83, 66), (66, .ifCond .lt 22, 69), (69, .iload_n 1, 70), (70, .ifCond .lt 14, 73), (73, .iload_n 2, 74), (74, .invokestatic 123, 77), (77, .iload_n 1, 78), (78, .invokestatic 123, 81), (81, .if_icmp .ge 7, 84), (84, .iload_n 2, 85), (85, .goto 4, 88), (88, .iload_n 1, 89), (89, .istore_n 1, 90), (90, .iinc 2 1, 93), (93, .goto (-55), 96), (96, .aload_n 0, 97), (97, .getfield 41, 100), (100, .ifCond .le 7, 103), (103, .iconst 0, 104), (104, .goto 4, 107), (107, .iload_n 1, 108), (108, .ireturn, 109)]
set_option maxRecDepth 100000 in
theorem ok_X3_witness : tbOK cX3_witness tb_X3_witness = true := by decide +kernel
def tb_X3_clear : List (Nat × Instr × Nat) := [(0, .aload_n 0, 1), (1, .iconst 0, 2), (2, .putfield 41, 5), (5, .aload_n 0, 6), (6, .getfield 45, 9), (9, .istore_n 1, 10), (10, .aload_n 0, 11), (11, .iconst 0, 12), (12, .putfield 45, 15), (15, .aload_n 0, 16), (16, .iconst 0, 17), (17, .putfield 80, 20), (20, .aload_n 0, 21), (21, .iconst 0, 22), (22, .putfield 52, 25), (25, .iconst 0, 26), (26, .istore_n 2, 27), (27, .iload_n 2, 28), (28, .sipush 512, 31), (31, .if_icmp .ge 16, 34), (34, .aload_n 0, 35), (35, .getfield 22, 38), (38, .iload_n 2, 39), (39, .lconst 0, 40), (40, .lastore, 41), (41, .iinc 2 1, 44), (44, .goto (-17), 47), (47, .iload_n 1, 48), (48, .ireturn, 49)]
set_option maxRecDepth 100000 in
theorem ok_X3_clear : tbOK cX3_clear tb_X3_clear = true := by decide +kernel
def tb_J6_bitCount_0f7a4 : List (Nat × Instr × Nat) := [(0, .iload_n 0, 1), (1, .iload_n 0, 2), (2, .iconst 1, 3), (3, .iushr, 4), (4, .ldc_w 265, 7), (7, .iand, 8), (8, .isub, 9), (9, .istore_n 0, 10), (10, .iload_n 0, 11), (11, .ldc_w 266, 14), (14, .iand, 15), (15, .iload_n 0, 16), (16, .iconst 2, 17), (17, .iushr, 18), (18, .ldc_w 266, 21), (21, .iand, 22), (22, .iadd, 23), (23, .istore_n 0, 24), (24, .iload_n 0, 25), (25, .iload_n 0, 26), (26, .iconst 4, 27), (27, .iushr, 28), (28, .iadd, 29), (29, .ldc_w 267, 32), (32, .iand, 33), (33, .istore_n 0, 34), (34, .iload_n 0, 35), (35, .iload_n 0, 36), (36, .bipush 8, 38), (38, .iushr, 39), (39, .iadd, 40), (40, .istore_n 0, 41), (41, .iload_n 0, 42), (42, .iload_n 0, 43), (43, .bipush 16, 45), (45, .iushr, 46), (46, .iadd, 47), (47, .istore_n 0, 48), (48, .iload_n 0, 49), (49, .bipush 63, 51), (51, .iand, 52), (52, .ireturn, 53)]
set_option maxRecDepth 100000 in
theorem ok_J6_bitCount_0f7a4 : tbOK cJ6_bitCount_0f7a4 tb_J6_bitCount_0f7a4 = true := by decide +kernel
def tb_J7_fill_d0a16 : List (Nat × Instr × Nat) := [(0, .iconst 0, 1), (1, .istore_n 3, 2), (2, .aload_n 0, 3), (3, .arraylength, 4), (4, .istore 4, 6), (6, .iload_n 3, 7), (7, .iload 4, 9), (9, .if_icmp .ge 13, 12), (12, .aload_n 0, 13), (13, .iload_n 3, 14), (14, .lload_n 1, 15), (15, .lastore, 16), (16, .iinc 3 1, 19), (19, .goto (-13), 22), (22, .return_, 23)]
set_option maxRecDepth 100000 in
theorem ok_J7_fill_d0a16 : tbOK cJ7_fill_d0a16 tb_J7_fill_d0a16 = true := by decide +kernel
def tb_L_input : List (Nat × Instr × Nat) := [(0, .aload_n 1, 1), (1, .iconst 0, 2), (2, .aload_n 0, 3), (3, .invokevirtual 7, 6), (6, .i2l, 7), (7, .lastore, 8), (8, .goto 6, 11), (11, .astore_n 2, 12), (12, .iconst 1, 13), (13, .ireturn, 14), (14, .iconst 0, 15), (15, .ireturn, 16)]
set_option maxRecDepth 100000 in
theorem ok_L_input : tbOK cL_input tb_L_input = true := by decide +kernel
def tb_L_gate : List (Nat × Instr × Nat) := [(0, .aload 5, 2), (2, .iconst 0, 3), (3, .aload_n 0, 4), (4, .iload_n 1, 5), (5, .iload_n 2, 6), (6, .iload_n 3, 7), (7, .iload 4, 9), (9, .invokevirtual 15, 12), (12, .i2l, 13), (13, .lastore, 14), (14, .goto 11, 17), (17, .astore 6, 19), (19, .iconst 1, 20), (20, .ireturn, 21), (21, .astore 6, 23), (23, .iconst 2, 24), (24, .ireturn, 25), (25, .iconst 0, 26), (26, .ireturn, 27)]
set_option maxRecDepth 100000 in
theorem ok_L_gate : tbOK cL_gate tb_L_gate = true := by decide +kernel
def tb_L_add : List (Nat × Instr × Nat) := [(0, .aload_n 3, 1), (1, .iconst 0, 2), (2, .aload_n 0, 3), (3, .iload_n 1, 4), (4, .iload_n 2, 5), (5, .invokevirtual 21, 8), (8, .i2l, 9), (9, .lastore, 10), (10, .goto 11, 13), (13, .astore 4, 15), (15, .iconst 1, 16), (16, .ireturn, 17), (17, .astore 4, 19), (19, .iconst 2, 20), (20, .ireturn, 21), (21, .iconst 0, 22), (22, .ireturn, 23)]
set_option maxRecDepth 100000 in
theorem ok_L_add : tbOK cL_add tb_L_add = true := by decide +kernel
def tb_L_simulate : List (Nat × Instr × Nat) := [(0, .aload_n 2, 1), (1, .iconst 0, 2), (2, .aload_n 0, 3), (3, .iload_n 1, 4), (4, .invokevirtual 25, 7), (7, .i2l, 8), (8, .lastore, 9), (9, .goto 6, 12), (12, .astore_n 3, 13), (13, .iconst 1, 14), (14, .ireturn, 15), (15, .iconst 0, 16), (16, .ireturn, 17)]
set_option maxRecDepth 100000 in
theorem ok_L_simulate : tbOK cL_simulate tb_L_simulate = true := by decide +kernel
def tb_L_evaluate : List (Nat × Instr × Nat) := [(0, .aload_n 2, 1), (1, .iconst 0, 2), (2, .aload_n 0, 3), (3, .iload_n 1, 4), (4, .invokevirtual 29, 7), (7, .lastore, 8), (8, .goto 6, 11), (11, .astore_n 3, 12), (12, .iconst 1, 13), (13, .ireturn, 14), (14, .iconst 0, 15), (15, .ireturn, 16)]
set_option maxRecDepth 100000 in
theorem ok_L_evaluate : tbOK cL_evaluate tb_L_evaluate = true := by decide +kernel
def tb_L_prove : List (Nat × Instr × Nat) := [(0, .aload_n 1, 1), (1, .iconst 0, 2), (2, .aload_n 0, 3), (3, .invokevirtual 33, 6), (6, .i2l, 7), (7, .lastore, 8), (8, .goto 6, 11), (11, .astore_n 2, 12), (12, .iconst 1, 13), (13, .ireturn, 14), (14, .iconst 0, 15), (15, .ireturn, 16)]
set_option maxRecDepth 100000 in
theorem ok_L_prove : tbOK cL_prove tb_L_prove = true := by decide +kernel
def tb_L_size : List (Nat × Instr × Nat) := [(0, .aload_n 2, 1), (1, .iconst 0, 2), (2, .aload_n 0, 3), (3, .iload_n 1, 4), (4, .invokevirtual 38, 7), (7, .i2l, 8), (8, .lastore, 9), (9, .goto 9, 12), (12, .astore_n 3, 13), (13, .iconst 1, 14), (14, .ireturn, 15), (15, .astore_n 3, 16), (16, .iconst 2, 17), (17, .ireturn, 18), (18, .iconst 0, 19), (19, .ireturn, 20)]
set_option maxRecDepth 100000 in
theorem ok_L_size : tbOK cL_size tb_L_size = true := by decide +kernel
def tb_L_monomial : List (Nat × Instr × Nat) := [(0, .aload_n 3, 1), (1, .iconst 0, 2), (2, .aload_n 0, 3), (3, .iload_n 1, 4), (4, .iload_n 2, 5), (5, .invokevirtual 43, 8), (8, .i2l, 9), (9, .lastore, 10), (10, .goto 11, 13), (13, .astore 4, 15), (15, .iconst 1, 16), (16, .ireturn, 17), (17, .astore 4, 19), (19, .iconst 2, 20), (20, .ireturn, 21), (21, .iconst 0, 22), (22, .ireturn, 23)]
set_option maxRecDepth 100000 in
theorem ok_L_monomial : tbOK cL_monomial tb_L_monomial = true := by decide +kernel
def tb_L_coefficient : List (Nat × Instr × Nat) := [(0, .aload_n 3, 1), (1, .iconst 0, 2), (2, .aload_n 0, 3), (3, .iload_n 1, 4), (4, .iload_n 2, 5), (5, .invokevirtual 46, 8), (8, .lastore, 9), (9, .goto 11, 12), (12, .astore 4, 14), (14, .iconst 1, 15), (15, .ireturn, 16), (16, .astore 4, 18), (18, .iconst 2, 19), (19, .ireturn, 20), (20, .iconst 0, 21), (21, .ireturn, 22)]
set_option maxRecDepth 100000 in
theorem ok_L_coefficient : tbOK cL_coefficient tb_L_coefficient = true := by decide +kernel
def tb_L_spoil : List (Nat × Instr × Nat) := [(0, .aload 4, 2), (2, .iconst 0, 3), (3, .aload_n 0, 4), (4, .iload_n 1, 5), (5, .iload_n 2, 6), (6, .iload_n 3, 7), (7, .invokevirtual 50, 10), (10, .lastore, 11), (11, .goto 15, 14), (14, .astore 5, 16), (16, .iconst 1, 17), (17, .ireturn, 18), (18, .astore 5, 20), (20, .iconst 2, 21), (21, .ireturn, 22), (22, .astore 5, 24), (24, .iconst 3, 25), (25, .ireturn, 26), (26, .iconst 0, 27), (27, .ireturn, 28)]
set_option maxRecDepth 100000 in
theorem ok_L_spoil : tbOK cL_spoil tb_L_spoil = true := by decide +kernel
def tb_L_check : List (Nat × Instr × Nat) := [(0, .aload_n 1, 1), (1, .iconst 0, 2), (2, .aload_n 0, 3), (3, .invokevirtual 54, 6), (6, .i2l, 7), (7, .lastore, 8), (8, .goto 6, 11), (11, .astore_n 2, 12), (12, .iconst 1, 13), (13, .ireturn, 14), (14, .iconst 0, 15), (15, .ireturn, 16)]
set_option maxRecDepth 100000 in
theorem ok_L_check : tbOK cL_check tb_L_check = true := by decide +kernel
def tb_L_witness : List (Nat × Instr × Nat) := [(0, .aload_n 1, 1), (1, .iconst 0, 2), (2, .aload_n 0, 3), (3, .invokevirtual 57, 6), (6, .i2l, 7), (7, .lastore, 8), (8, .goto 9, 11), (11, .astore_n 2, 12), (12, .iconst 1, 13), (13, .ireturn, 14), (14, .astore_n 2, 15), (15, .iconst 2, 16), (16, .ireturn, 17), (17, .iconst 0, 18), (18, .ireturn, 19)]
set_option maxRecDepth 100000 in
theorem ok_L_witness : tbOK cL_witness tb_L_witness = true := by decide +kernel
def tb_L_law_0 : List (Nat × Instr × Nat) := [(0, .new 8, 3), (3, .dup, 4), (4, .invokespecial 62, 7), (7, .astore_n 1, 8), (8, .new 63, 11), (11, .dup, 12), (12, .invokespecial 65, 15), (15, .astore_n 2, 16), (16, .iconst 1, 17), (17, .newarray .long, 19), (19, .astore_n 3, 20), (20, .iconst 0, 21), (21, .istore 4, 23), (23, .iload 4, 25), (25, .aload_n 0, 26), (26, .arraylength, 27), (27, .iconst 5, 28), (28, .isub, 29), (29, .if_icmp .gt 845, 32), (32, .aload_n 0, 33), (33, .iload 4, 35), (35, .iaload, 36), (36, .bipush 15, 38), (38, .iand, 39), (39, .tableswitch 829 0 14 #[73, 117, 209, 222, 290, 346, 401, 445, 458, 514, 582, 649, 728, 772, 816], 112), (112, .aload_n 1, 113), (113, .aload_n 3, 114), (114, .invokestatic 66, 117), (117, .istore 5, 119), (119, .aload_n 2, 120), (120, .invokevirtual 71, 123), (123, .istore 6, 125), (125, .aload_n 2, 126), (126, .invokevirtual 72, 129), (129, .iload 5, 131), (131, .if_icmp .eq 5, 134), (134, .iconst 0, 135), (135, .ireturn, 136), (136, .iload 5, 138), (138, .ifCond .ne 15, 141), (141, .aload_n 3, 142), (142, .iconst 0, 143), (143, .laload, 144), (144, .iload 6, 146), (146, .i2l, 147), (147, .lcmp, 148), (148, .ifCond .eq 5, 151), (151, .iconst 0, 152), (152, .ireturn, 153), (153, .goto 715, 156), (156, .aload_n 1, 157), (157, .aload_n 0, 158), (158, .iload 4, 160), (160, .iconst 1, 161), (161, .iadd, 162), (162, .iaload, 163), (163, .aload_n 0, 164), (164, .iload 4, 166), (166, .iconst 2, 167), (167, .iadd, 168)]
set_option maxRecDepth 100000 in
theorem ok_L_law_0 : tbOK cL_law tb_L_law_0 = true := by decide +kernel
def tb_L_law_1 : List (Nat × Instr × Nat) := [(168, .iaload, 169), (169, .aload_n 0, 170), (170, .iload 4, 172), (172, .iconst 3, 173), (173, .iadd, 174), (174, .iaload, 175), (175, .aload_n 0, 176), (176, .iload 4, 178), (178, .iconst 4, 179), (179, .iadd, 180), (180, .iaload, 181), (181, .aload_n 3, 182), (182, .invokestatic 75, 185), (185, .istore 5, 187), (187, .aload_n 2, 188), (188, .aload_n 0, 189), (189, .iload 4, 191), (191, .iconst 1, 192), (192, .iadd, 193), (193, .iaload, 194), (194, .aload_n 0, 195), (195, .iload 4, 197), (197, .iconst 2, 198), (198, .iadd, 199), (199, .iaload, 200), (200, .aload_n 0, 201), (201, .iload 4, 203), (203, .iconst 3, 204), (204, .iadd, 205), (205, .iaload, 206), (206, .aload_n 0, 207), (207, .iload 4, 209), (209, .iconst 4, 210), (210, .iadd, 211), (211, .iaload, 212), (212, .invokevirtual 78, 215), (215, .istore 6, 217), (217, .aload_n 2, 218), (218, .invokevirtual 72, 221), (221, .iload 5, 223), (223, .if_icmp .eq 5, 226), (226, .iconst 0, 227), (227, .ireturn, 228), (228, .iload 5, 230), (230, .ifCond .ne 15, 233), (233, .aload_n 3, 234), (234, .iconst 0, 235), (235, .laload, 236), (236, .iload 6, 238), (238, .i2l, 239), (239, .lcmp, 240), (240, .ifCond .eq 5, 243), (243, .iconst 0, 244), (244, .ireturn, 245), (245, .goto 623, 248), (248, .aload_n 1, 249), (249, .invokevirtual 79, 252), (252, .aload_n 2, 253), (253, .invokevirtual 82, 256), (256, .if_icmp .eq 612, 259)]
set_option maxRecDepth 100000 in
theorem ok_L_law_1 : tbOK cL_law tb_L_law_1 = true := by decide +kernel
def tb_L_law_2 : List (Nat × Instr × Nat) := [(259, .iconst 0, 260), (260, .ireturn, 261), (261, .aload_n 1, 262), (262, .aload_n 0, 263), (263, .iload 4, 265), (265, .iconst 1, 266), (266, .iadd, 267), (267, .iaload, 268), (268, .aload_n 0, 269), (269, .iload 4, 271), (271, .iconst 2, 272), (272, .iadd, 273), (273, .iaload, 274), (274, .aload_n 3, 275), (275, .invokestatic 83, 278), (278, .istore 5, 280), (280, .aload_n 2, 281), (281, .aload_n 0, 282), (282, .iload 4, 284), (284, .iconst 1, 285), (285, .iadd, 286), (286, .iaload, 287), (287, .aload_n 0, 288), (288, .iload 4, 290), (290, .iconst 2, 291), (291, .iadd, 292), (292, .iaload, 293), (293, .invokevirtual 86, 296), (296, .istore 6, 298), (298, .aload_n 2, 299), (299, .invokevirtual 72, 302), (302, .iload 5, 304), (304, .if_icmp .eq 5, 307), (307, .iconst 0, 308), (308, .ireturn, 309), (309, .iload 5, 311), (311, .ifCond .ne 15, 314), (314, .aload_n 3, 315), (315, .iconst 0, 316), (316, .laload, 317), (317, .iload 6, 319), (319, .i2l, 320), (320, .lcmp, 321), (321, .ifCond .eq 5, 324), (324, .iconst 0, 325), (325, .ireturn, 326), (326, .goto 542, 329), (329, .aload_n 1, 330), (330, .aload_n 0, 331), (331, .iload 4, 333), (333, .iconst 1, 334), (334, .iadd, 335), (335, .iaload, 336), (336, .aload_n 3, 337), (337, .invokestatic 87, 340), (340, .istore 5, 342), (342, .aload_n 2, 343), (343, .aload_n 0, 344), (344, .iload 4, 346), (346, .iconst 1, 347)]
set_option maxRecDepth 100000 in
theorem ok_L_law_2 : tbOK cL_law tb_L_law_2 = true := by decide +kernel
def tb_L_law_3 : List (Nat × Instr × Nat) := [(347, .iadd, 348), (348, .iaload, 349), (349, .invokevirtual 90, 352), (352, .istore 6, 354), (354, .aload_n 2, 355), (355, .invokevirtual 72, 358), (358, .iload 5, 360), (360, .if_icmp .eq 5, 363), (363, .iconst 0, 364), (364, .ireturn, 365), (365, .iload 5, 367), (367, .ifCond .ne 15, 370), (370, .aload_n 3, 371), (371, .iconst 0, 372), (372, .laload, 373), (373, .iload 6, 375), (375, .i2l, 376), (376, .lcmp, 377), (377, .ifCond .eq 5, 380), (380, .iconst 0, 381), (381, .ireturn, 382), (382, .goto 486, 385), (385, .aload_n 1, 386), (386, .aload_n 0, 387), (387, .iload 4, 389), (389, .iconst 1, 390), (390, .iadd, 391), (391, .iaload, 392), (392, .aload_n 3, 393), (393, .invokestatic 91, 396), (396, .istore 5, 398), (398, .aload_n 2, 399), (399, .aload_n 0, 400), (400, .iload 4, 402), (402, .iconst 1, 403), (403, .iadd, 404), (404, .iaload, 405), (405, .invokevirtual 93, 408), (408, .lstore 6, 410), (410, .aload_n 2, 411), (411, .invokevirtual 72, 414), (414, .iload 5, 416), (416, .if_icmp .eq 5, 419), (419, .iconst 0, 420), (420, .ireturn, 421), (421, .iload 5, 423), (423, .ifCond .ne 14, 426), (426, .aload_n 3, 427), (427, .iconst 0, 428), (428, .laload, 429), (429, .lload 6, 431), (431, .lcmp, 432), (432, .ifCond .eq 5, 435), (435, .iconst 0, 436), (436, .ireturn, 437), (437, .goto 431, 440), (440, .aload_n 1, 441), (441, .aload_n 3, 442), (442, .invokestatic 94, 445), (445, .istore 5, 447)]
set_option maxRecDepth 100000 in
theorem ok_L_law_3 : tbOK cL_law tb_L_law_3 = true := by decide +kernel
def tb_L_law_4 : List (Nat × Instr × Nat) := [(447, .aload_n 2, 448), (448, .invokevirtual 96, 451), (451, .istore 6, 453), (453, .aload_n 2, 454), (454, .invokevirtual 72, 457), (457, .iload 5, 459), (459, .if_icmp .eq 5, 462), (462, .iconst 0, 463), (463, .ireturn, 464), (464, .iload 5, 466), (466, .ifCond .ne 15, 469), (469, .aload_n 3, 470), (470, .iconst 0, 471), (471, .laload, 472), (472, .iload 6, 474), (474, .i2l, 475), (475, .lcmp, 476), (476, .ifCond .eq 5, 479), (479, .iconst 0, 480), (480, .ireturn, 481), (481, .goto 387, 484), (484, .aload_n 1, 485), (485, .invokevirtual 97, 488), (488, .aload_n 2, 489), (489, .invokevirtual 100, 492), (492, .if_icmp .eq 376, 495), (495, .iconst 0, 496), (496, .ireturn, 497), (497, .aload_n 1, 498), (498, .aload_n 0, 499), (499, .iload 4, 501), (501, .iconst 1, 502), (502, .iadd, 503), (503, .iaload, 504), (504, .aload_n 3, 505), (505, .invokestatic 101, 508), (508, .istore 5, 510), (510, .aload_n 2, 511), (511, .aload_n 0, 512), (512, .iload 4, 514), (514, .iconst 1, 515), (515, .iadd, 516), (516, .iaload, 517), (517, .invokevirtual 103, 520), (520, .istore 6, 522), (522, .aload_n 2, 523), (523, .invokevirtual 72, 526), (526, .iload 5, 528), (528, .if_icmp .eq 5, 531), (531, .iconst 0, 532), (532, .ireturn, 533), (533, .iload 5, 535), (535, .ifCond .ne 15, 538), (538, .aload_n 3, 539), (539, .iconst 0, 540), (540, .laload, 541), (541, .iload 6, 543), (543, .i2l, 544), (544, .lcmp, 545), (545, .ifCond .eq 5, 548)]
set_option maxRecDepth 100000 in
theorem ok_L_law_4 : tbOK cL_law tb_L_law_4 = true := by decide +kernel
def tb_L_law_5 : List (Nat × Instr × Nat) := [(548, .iconst 0, 549), (549, .ireturn, 550), (550, .goto 318, 553), (553, .aload_n 1, 554), (554, .aload_n 0, 555), (555, .iload 4, 557), (557, .iconst 1, 558), (558, .iadd, 559), (559, .iaload, 560), (560, .aload_n 0, 561), (561, .iload 4, 563), (563, .iconst 2, 564), (564, .iadd, 565), (565, .iaload, 566), (566, .aload_n 3, 567), (567, .invokestatic 104, 570), (570, .istore 5, 572), (572, .aload_n 2, 573), (573, .aload_n 0, 574), (574, .iload 4, 576), (576, .iconst 1, 577), (577, .iadd, 578), (578, .iaload, 579), (579, .aload_n 0, 580), (580, .iload 4, 582), (582, .iconst 2, 583), (583, .iadd, 584), (584, .iaload, 585), (585, .invokevirtual 106, 588), (588, .istore 6, 590), (590, .aload_n 2, 591), (591, .invokevirtual 72, 594), (594, .iload 5, 596), (596, .if_icmp .eq 5, 599), (599, .iconst 0, 600), (600, .ireturn, 601), (601, .iload 5, 603), (603, .ifCond .ne 15, 606), (606, .aload_n 3, 607), (607, .iconst 0, 608), (608, .laload, 609), (609, .iload 6, 611), (611, .i2l, 612), (612, .lcmp, 613), (613, .ifCond .eq 5, 616), (616, .iconst 0, 617), (617, .ireturn, 618), (618, .goto 250, 621), (621, .aload_n 1, 622), (622, .aload_n 0, 623), (623, .iload 4, 625), (625, .iconst 1, 626), (626, .iadd, 627), (627, .iaload, 628), (628, .aload_n 0, 629), (629, .iload 4, 631), (631, .iconst 2, 632), (632, .iadd, 633), (633, .iaload, 634), (634, .aload_n 3, 635)]
set_option maxRecDepth 100000 in
theorem ok_L_law_5 : tbOK cL_law tb_L_law_5 = true := by decide +kernel
def tb_L_law_6 : List (Nat × Instr × Nat) := [(635, .invokestatic 107, 638), (638, .istore 5, 640), (640, .aload_n 2, 641), (641, .aload_n 0, 642), (642, .iload 4, 644), (644, .iconst 1, 645), (645, .iadd, 646), (646, .iaload, 647), (647, .aload_n 0, 648), (648, .iload 4, 650), (650, .iconst 2, 651), (651, .iadd, 652), (652, .iaload, 653), (653, .invokevirtual 109, 656), (656, .lstore 6, 658), (658, .aload_n 2, 659), (659, .invokevirtual 72, 662), (662, .iload 5, 664), (664, .if_icmp .eq 5, 667), (667, .iconst 0, 668), (668, .ireturn, 669), (669, .iload 5, 671), (671, .ifCond .ne 14, 674), (674, .aload_n 3, 675), (675, .iconst 0, 676), (676, .laload, 677), (677, .lload 6, 679), (679, .lcmp, 680), (680, .ifCond .eq 5, 683), (683, .iconst 0, 684), (684, .ireturn, 685), (685, .goto 183, 688), (688, .aload_n 1, 689), (689, .aload_n 0, 690), (690, .iload 4, 692), (692, .iconst 1, 693), (693, .iadd, 694), (694, .iaload, 695), (695, .aload_n 0, 696), (696, .iload 4, 698), (698, .iconst 2, 699), (699, .iadd, 700), (700, .iaload, 701), (701, .aload_n 0, 702), (702, .iload 4, 704), (704, .iconst 3, 705), (705, .iadd, 706), (706, .iaload, 707), (707, .aload_n 3, 708), (708, .invokestatic 110, 711), (711, .istore 5, 713), (713, .aload_n 2, 714), (714, .aload_n 0, 715), (715, .iload 4, 717), (717, .iconst 1, 718), (718, .iadd, 719), (719, .iaload, 720), (720, .aload_n 0, 721), (721, .iload 4, 723), (723, .iconst 2, 724)]
set_option maxRecDepth 100000 in
theorem ok_L_law_6 : tbOK cL_law tb_L_law_6 = true := by decide +kernel
def tb_L_law_7 : List (Nat × Instr × Nat) := [(724, .iadd, 725), (725, .iaload, 726), (726, .aload_n 0, 727), (727, .iload 4, 729), (729, .iconst 3, 730), (730, .iadd, 731), (731, .iaload, 732), (732, .invokevirtual 113, 735), (735, .lstore 6, 737), (737, .aload_n 2, 738), (738, .invokevirtual 72, 741), (741, .iload 5, 743), (743, .if_icmp .eq 5, 746), (746, .iconst 0, 747), (747, .ireturn, 748), (748, .iload 5, 750), (750, .ifCond .ne 14, 753), (753, .aload_n 3, 754), (754, .iconst 0, 755), (755, .laload, 756), (756, .lload 6, 758), (758, .lcmp, 759), (759, .ifCond .eq 5, 762), (762, .iconst 0, 763), (763, .ireturn, 764), (764, .goto 104, 767), (767, .aload_n 1, 768), (768, .aload_n 3, 769), (769, .invokestatic 114, 772), (772, .istore 5, 774), (774, .aload_n 2, 775), (775, .invokevirtual 116, 778), (778, .istore 6, 780), (780, .aload_n 2, 781), (781, .invokevirtual 72, 784), (784, .iload 5, 786), (786, .if_icmp .eq 5, 789), (789, .iconst 0, 790), (790, .ireturn, 791), (791, .iload 5, 793), (793, .ifCond .ne 15, 796), (796, .aload_n 3, 797), (797, .iconst 0, 798), (798, .laload, 799), (799, .iload 6, 801), (801, .i2l, 802), (802, .lcmp, 803), (803, .ifCond .eq 5, 806), (806, .iconst 0, 807), (807, .ireturn, 808), (808, .goto 60, 811), (811, .aload_n 1, 812), (812, .aload_n 3, 813), (813, .invokestatic 117, 816), (816, .istore 5, 818), (818, .aload_n 2, 819), (819, .invokevirtual 119, 822), (822, .istore 6, 824), (824, .aload_n 2, 825), (825, .invokevirtual 72, 828)]
set_option maxRecDepth 100000 in
theorem ok_L_law_7 : tbOK cL_law tb_L_law_7 = true := by decide +kernel
def tb_L_law_8 : List (Nat × Instr × Nat) := [(828, .iload 5, 830), (830, .if_icmp .eq 5, 833), (833, .iconst 0, 834), (834, .ireturn, 835), (835, .iload 5, 837), (837, .ifCond .ne 15, 840), (840, .aload_n 3, 841), (841, .iconst 0, 842), (842, .laload, 843), (843, .iload 6, 845), (845, .i2l, 846), (846, .lcmp, 847), (847, .ifCond .eq 5, 850), (850, .iconst 0, 851), (851, .ireturn, 852), (852, .goto 16, 855), (855, .aload_n 1, 856), (856, .invokevirtual 120, 859), (859, .aload_n 2, 860), (860, .invokevirtual 123, 863), (863, .if_icmp .eq 5, 866), (866, .iconst 0, 867), (867, .ireturn, 868), (868, .iinc 4 5, 871), (871, .goto (-848), 874), (874, .iconst 1, 875), (875, .ireturn, 876)]
set_option maxRecDepth 100000 in
theorem ok_L_law_8 : tbOK cL_law tb_L_law_8 = true := by decide +kernel
def tb_L_law : List (Nat × Instr × Nat) := tb_L_law_0 ++ (tb_L_law_1 ++ (tb_L_law_2 ++ (tb_L_law_3 ++ (tb_L_law_4 ++ (tb_L_law_5 ++ (tb_L_law_6 ++ (tb_L_law_7 ++ (tb_L_law_8))))))))
theorem ok_L_law : tbOK cL_law tb_L_law = true := tbOK_app ok_L_law_0 (tbOK_app ok_L_law_1 (tbOK_app ok_L_law_2 (tbOK_app ok_L_law_3 (tbOK_app ok_L_law_4 (tbOK_app ok_L_law_5 (tbOK_app ok_L_law_6 (tbOK_app ok_L_law_7 (ok_L_law_8))))))))
end
section
section
variable {p : Program} {l : Launch} {e : Env} {R : Room} {s : State} {m : MethodId} {args : Array Value} {below : List Frame} {meth : Method} {c : Code} {D : va_G} {dA ad : Nat → Nat} {L : List Nat} {A : Nat → Prop} {nL cells slots : Nat} {Q : State → Prop} {hp : Nat → KE} {own : String} {cc : ByteArray} {ret : Option FieldType} {tb : List (Nat × Instr × Nat)}
theorem lk_ix {ad : Nat → Nat} {i : Nat} {v : Value} : ∀ {lv : List (Nat × Value)}, lk lv i = some v → ∃ j : Nat, (emL ad lv)[j]? = some (i, em ad v)
  | [], h => by simp [lk] at h
  | (j, w) :: r, h => by
    by_cases hb : Nat.beq j i = true
    · simp only [lk, hb] at h
      have hv : w = v := Option.some.inj h
      have hji : j = i := Nat.eq_of_beq_eq_true hb
      subst hji
      subst hv
      exact ⟨0, rfl⟩
    · have hb2 : Nat.beq j i = false := by cases hx : Nat.beq j i with
        | true => exact absurd hx hb
        | false => rfl
      simp only [lk, hb2] at h
      obtain ⟨j2, h2⟩ := lk_ix (lv := r) h
      exact ⟨j2 + 1, h2⟩
set_option maxHeartbeats 4000000 in
theorem g_st1 (hC : CX p s m args meth c own cc nL ret tb D dA ad L A) {pc nx : Nat} {i : Instr} {lv : List (Nat × Value)} {st : List Value} {r : kS} (hf : fd tb pc = some (i, nx)) (h : st1 nL i pc nx lv st = some r)
    (k : G p l e R s m args below meth c D dA ad L A nL cells slots Q hp r.1 r.2.1 r.2.2) : G p l e R s m args below meth c D dA ad L A nL cells slots Q hp pc lv st := by
  obtain ⟨⟨hx, hb, -, -, -⟩, -, -, ht, -⟩ := hC
  obtain ⟨n, hd, hnx, hn⟩ := fd_ok ht hf
  cases i
  case iconst z =>
    obtain rfl : n = 1 := hn.resolve_left (by simp [ilen])
    subst hnx
    simp only [st1] at h
    cases h
    exact fun H locs ls hP hS hl => lv_iconst hx hb hd (cI_eq _) (k H locs ls hP hS hl)
  case bipush z =>
    obtain rfl : n = 2 := hn.resolve_left (by simp [ilen])
    subst hnx
    simp only [st1, cst] at h
    split at h
    · rename_i hq _
      cases h
      exact fun H locs ls hP hS hl => lv_bipush hx hb hd hq (k H locs ls hP hS hl)
    · cases h
  case sipush z =>
    obtain rfl : n = 3 := hn.resolve_left (by simp [ilen])
    subst hnx
    simp only [st1, cst] at h
    split at h
    · rename_i hq _
      cases h
      exact fun H locs ls hP hS hl => lv_sipush hx hb hd hq (k H locs ls hP hS hl)
    · cases h
  case lconst z =>
    obtain rfl : n = 1 := hn.resolve_left (by simp [ilen])
    subst hnx
    simp only [st1] at h
    cases h
    exact fun H locs ls hP hS hl => lv_lconst hx hb hd rfl (k H locs ls hP hS hl)
  case iload_n z =>
    obtain rfl : n = 1 := hn.resolve_left (by simp [ilen])
    subst hnx
    simp only [st1, ldI] at h
    split at h
    · rename_i x hq
      cases h
      exact fun H locs ls hP hS hl => lv_iload_n hx hb hd rfl (lk_at hl hq) (k H locs ls hP hS hl)
    · cases h
  case iload z =>
    obtain rfl : n = 2 := hn.resolve_left (by simp [ilen])
    subst hnx
    simp only [st1, ldI] at h
    split at h
    · rename_i x hq
      cases h
      exact fun H locs ls hP hS hl => lv_iload hx hb hd (lk_at hl hq) (k H locs ls hP hS hl)
    · cases h
  case lload_n z =>
    obtain rfl : n = 1 := hn.resolve_left (by simp [ilen])
    subst hnx
    simp only [st1, ldJ] at h
    split at h
    · rename_i x hq
      cases h
      exact fun H locs ls hP hS hl => lv_lload_n hx hb hd rfl (lk_at hl hq) (k H locs ls hP hS hl)
    · cases h
  case lload z =>
    obtain rfl : n = 2 := hn.resolve_left (by simp [ilen])
    subst hnx
    simp only [st1, ldJ] at h
    split at h
    · rename_i x hq
      cases h
      exact fun H locs ls hP hS hl => lv_lload hx hb hd (lk_at hl hq) (k H locs ls hP hS hl)
    · cases h
  case aload_n z =>
    obtain rfl : n = 1 := hn.resolve_left (by simp [ilen])
    subst hnx
    simp only [st1, ldA] at h
    split at h
    · rename_i x hq
      cases h
      exact fun H locs ls hP hS hl => lv_aload_n hx hb hd rfl (lk_at hl hq) (k H locs ls hP hS hl)
    · cases h
  case aload z =>
    obtain rfl : n = 2 := hn.resolve_left (by simp [ilen])
    subst hnx
    simp only [st1, ldA] at h
    split at h
    · rename_i x hq
      cases h
      exact fun H locs ls hP hS hl => lv_aload hx hb hd (lk_at hl hq) (k H locs ls hP hS hl)
    · cases h
  case istore_n z =>
    obtain rfl : n = 1 := hn.resolve_left (by simp [ilen])
    subst hnx
    simp only [st1, stI] at h
    split at h
    · rename_i x r9
      split at h
      · rename_i hq
        cases h
        exact fun H locs ls hP hS hl => lv_istore_n hx hb hd rfl hl (Nat.le_of_ble_eq_true hq) (em_sv1 ad lv z (.int x)) (fun ls' hl' => k H locs ls' hP hS hl')
      · cases h
    · cases h
  case istore z =>
    obtain rfl : n = 2 := hn.resolve_left (by simp [ilen])
    subst hnx
    simp only [st1, stI] at h
    split at h
    · rename_i x r9
      split at h
      · rename_i hq
        cases h
        exact fun H locs ls hP hS hl => lv_istore hx hb hd hl (Nat.le_of_ble_eq_true hq) (em_sv1 ad lv z (.int x)) (fun ls' hl' => k H locs ls' hP hS hl')
      · cases h
    · cases h
  case lstore_n z =>
    obtain rfl : n = 1 := hn.resolve_left (by simp [ilen])
    subst hnx
    simp only [st1, stJ] at h
    split at h
    · rename_i x r9
      split at h
      · rename_i hq
        cases h
        exact fun H locs ls hP hS hl => lv_lstore_n hx hb hd rfl hl (Nat.le_of_ble_eq_true hq) (em_sv2 ad lv z (.long x)) (fun ls' hl' => k H locs ls' hP hS hl')
      · cases h
    · cases h
  case lstore z =>
    obtain rfl : n = 2 := hn.resolve_left (by simp [ilen])
    subst hnx
    simp only [st1, stJ] at h
    split at h
    · rename_i x r9
      split at h
      · rename_i hq
        cases h
        exact fun H locs ls hP hS hl => lv_lstore hx hb hd hl (Nat.le_of_ble_eq_true hq) (em_sv2 ad lv z (.long x)) (fun ls' hl' => k H locs ls' hP hS hl')
      · cases h
    · cases h
  case astore_n z =>
    obtain rfl : n = 1 := hn.resolve_left (by simp [ilen])
    subst hnx
    simp only [st1, stA] at h
    split at h
    · rename_i x r9
      split at h
      · rename_i hq
        cases h
        exact fun H locs ls hP hS hl => lv_astore_n hx hb hd rfl hl (Nat.le_of_ble_eq_true hq) (em_sv1 ad lv z (.ref x)) (fun ls' hl' => k H locs ls' hP hS hl')
      · cases h
    · cases h
  case astore z =>
    obtain rfl : n = 2 := hn.resolve_left (by simp [ilen])
    subst hnx
    simp only [st1, stA] at h
    split at h
    · rename_i x r9
      split at h
      · rename_i hq
        cases h
        exact fun H locs ls hP hS hl => lv_astore hx hb hd hl (Nat.le_of_ble_eq_true hq) (em_sv1 ad lv z (.ref x)) (fun ls' hl' => k H locs ls' hP hS hl')
      · cases h
    · cases h
  case iadd =>
    obtain rfl : n = 1 := hn.resolve_left (by simp [ilen])
    subst hnx
    simp only [st1, b2I] at h
    split at h
    · rename_i y x r9
      cases h
      exact fun H locs ls hP hS hl => lv_iadd hx hb hd (k H locs ls hP hS hl)
    · cases h
  case isub =>
    obtain rfl : n = 1 := hn.resolve_left (by simp [ilen])
    subst hnx
    simp only [st1, b2I] at h
    split at h
    · rename_i y x r9
      cases h
      exact fun H locs ls hP hS hl => lv_isub hx hb hd (k H locs ls hP hS hl)
    · cases h
  case imul =>
    obtain rfl : n = 1 := hn.resolve_left (by simp [ilen])
    subst hnx
    simp only [st1, b2I] at h
    split at h
    · rename_i y x r9
      cases h
      exact fun H locs ls hP hS hl => lv_imul hx hb hd (k H locs ls hP hS hl)
    · cases h
  case iand =>
    obtain rfl : n = 1 := hn.resolve_left (by simp [ilen])
    subst hnx
    simp only [st1, b2I] at h
    split at h
    · rename_i y x r9
      cases h
      exact fun H locs ls hP hS hl => lv_iand hx hb hd (k H locs ls hP hS hl)
    · cases h
  case ior =>
    obtain rfl : n = 1 := hn.resolve_left (by simp [ilen])
    subst hnx
    simp only [st1, b2I] at h
    split at h
    · rename_i y x r9
      cases h
      exact fun H locs ls hP hS hl => lv_ior hx hb hd (k H locs ls hP hS hl)
    · cases h
  case ixor =>
    obtain rfl : n = 1 := hn.resolve_left (by simp [ilen])
    subst hnx
    simp only [st1, b2I] at h
    split at h
    · rename_i y x r9
      cases h
      exact fun H locs ls hP hS hl => lv_ixor hx hb hd (k H locs ls hP hS hl)
    · cases h
  case ishl =>
    obtain rfl : n = 1 := hn.resolve_left (by simp [ilen])
    subst hnx
    simp only [st1, b2I] at h
    split at h
    · rename_i y x r9
      cases h
      exact fun H locs ls hP hS hl => lv_ishl hx hb hd (k H locs ls hP hS hl)
    · cases h
  case ishr =>
    obtain rfl : n = 1 := hn.resolve_left (by simp [ilen])
    subst hnx
    simp only [st1, b2I] at h
    split at h
    · rename_i y x r9
      cases h
      exact fun H locs ls hP hS hl => lv_ishr hx hb hd (k H locs ls hP hS hl)
    · cases h
  case iushr =>
    obtain rfl : n = 1 := hn.resolve_left (by simp [ilen])
    subst hnx
    simp only [st1, b2I] at h
    split at h
    · rename_i y x r9
      cases h
      exact fun H locs ls hP hS hl => lv_iushr hx hb hd rfl (k H locs ls hP hS hl)
    · cases h
  case ladd =>
    obtain rfl : n = 1 := hn.resolve_left (by simp [ilen])
    subst hnx
    simp only [st1, b2J] at h
    split at h
    · rename_i y x r9
      cases h
      exact fun H locs ls hP hS hl => lv_ladd hx hb hd (k H locs ls hP hS hl)
    · cases h
  case lsub =>
    obtain rfl : n = 1 := hn.resolve_left (by simp [ilen])
    subst hnx
    simp only [st1, b2J] at h
    split at h
    · rename_i y x r9
      cases h
      exact fun H locs ls hP hS hl => lv_lsub hx hb hd (k H locs ls hP hS hl)
    · cases h
  case lmul =>
    obtain rfl : n = 1 := hn.resolve_left (by simp [ilen])
    subst hnx
    simp only [st1, b2J] at h
    split at h
    · rename_i y x r9
      cases h
      exact fun H locs ls hP hS hl => lv_lmul hx hb hd (k H locs ls hP hS hl)
    · cases h
  case lcmp =>
    obtain rfl : n = 1 := hn.resolve_left (by simp [ilen])
    subst hnx
    simp only [st1, stC] at h
    split at h
    · cases h
      exact fun H locs ls hP hS hl => W.lcmp hx hb hd (k H locs ls hP hS hl)
    · cases h
  case i2l =>
    obtain rfl : n = 1 := hn.resolve_left (by simp [ilen])
    subst hnx
    simp only [st1, stL] at h
    split at h
    · cases h
      exact fun H locs ls hP hS hl => lv_i2l hx hb hd rfl (k H locs ls hP hS hl)
    · cases h
  case dup =>
    obtain rfl : n = 1 := hn.resolve_left (by simp [ilen])
    subst hnx
    simp only [st1, stD] at h
    split at h
    · cases h
      exact fun H locs ls hP hS hl => lv_dup hx hb hd rfl (k H locs ls hP hS hl)
    · cases h
      exact fun H locs ls hP hS hl => lv_dup hx hb hd rfl (k H locs ls hP hS hl)
    · cases h
  case dup2 =>
    obtain rfl : n = 1 := hn.resolve_left (by simp [ilen])
    subst hnx
    simp only [st1, stD2] at h
    split at h
    · cases h
      exact fun H locs ls hP hS hl => lv_dup2_11 hx hb hd rfl rfl (k H locs ls hP hS hl)
    · cases h
  case pop =>
    obtain rfl : n = 1 := hn.resolve_left (by simp [ilen])
    subst hnx
    simp only [st1, stP] at h
    split at h
    · cases h
      exact fun H locs ls hP hS hl => lv_pop hx hb hd rfl (k H locs ls hP hS hl)
    · cases h
      exact fun H locs ls hP hS hl => lv_pop hx hb hd rfl (k H locs ls hP hS hl)
    · cases h
  case pop2 =>
    obtain rfl : n = 1 := hn.resolve_left (by simp [ilen])
    subst hnx
    simp only [st1, stP2] at h
    split at h
    · cases h
      exact fun H locs ls hP hS hl => lv_pop2_2 hx hb hd rfl (k H locs ls hP hS hl)
    · cases h
  case iinc z w =>
    obtain rfl : n = 3 := hn.resolve_left (by simp [ilen])
    subst hnx
    simp only [st1, stN] at h
    split at h
    · rename_i x hq
      split at h
      · rename_i hq2
        cases h
        intro H locs ls hP hS hl
        obtain ⟨j, hj⟩ := lk_ix (ad := ad) hq
        exact lv_iinc hx hb hd hl hj (congrArg (fun z => x + z) (cI_eq w)) (Nat.le_of_ble_eq_true hq2) (em_sv1 ad lv z (.int (x + cI w))) (fun ls' hl' => k H locs ls' hP hS hl')
      · cases h
    · cases h
  case goto z =>
    obtain rfl : n = 3 := hn.resolve_left (by simp [ilen])
    subst hnx
    simp only [st1, stG] at h
    split at h
    · rename_i t hq
      cases h
      exact fun H locs ls hP hS hl => lv_goto hx hb hd hq (k H locs ls hP hS hl)
    · cases h
  all_goals (simp only [st1] at h; cases h)
/-- a run of plain instructions -/
def run (nL : Nat) (tb : List (Nat × Instr × Nat)) : Nat → Nat → List (Nat × Value) → List Value → Option kS
  | 0, pc, lv, st => some (pc, lv, st)
  | n + 1, pc, lv, st => match fd tb pc with
    | some (i, nx) => match st1 nL i pc nx lv st with
      | some (a, b, d) => run nL tb n a b d
      | none => none
    | none => none
theorem g_run (hC : CX p s m args meth c own cc nL ret tb D dA ad L A) : ∀ (n : Nat) {pc : Nat} {lv : List (Nat × Value)} {st : List Value} {pc' : Nat} {lv' : List (Nat × Value)} {st' : List Value}, run nL tb n pc lv st = some (pc', lv', st') →
    G p l e R s m args below meth c D dA ad L A nL cells slots Q hp pc' lv' st' → G p l e R s m args below meth c D dA ad L A nL cells slots Q hp pc lv st := by
  intro n
  induction n with
  | zero => intro pc lv st pc' lv' st' h k; simp only [run] at h; cases h; exact k
  | succ n ih =>
    intro pc lv st pc' lv' st' h k
    simp only [run] at h
    split at h
    · rename_i i nx hf
      split at h
      · rename_i a b d hy
        exact g_st1 hC hf hy (ih h k)
      · cases h
    · cases h
end
end
section
/-! ===== BEGIN exceptions that leave a method, and their catching by the caller (launches without stack traces) ===== -/
section VXA
/-! The laws vx_back, vx_callV, vx_callS, vx_callSW, vx_throw0, vx_throwS follow proofs of the library, with one case more: JvmDerived/Free/Laws.lean (Back.of_free), Shelf42/LK1.lean (callV, callS), Shelf/KitTraced.lean (throwNew0V, throwNewS). -/
/-- where a method has thrown q: the class by its name, the cell, what was written, the world -/
def vx_T (XC : String → State → State → Prop) (st : State) (q : Addr) (t : State) (mc ms : Nat) (free : Addr → Prop) : Prop :=
  ∃ (E : String) (ce : Cell) (L : List Loc), XC E st t ∧ t.heap[q]? = some ce ∧ ce.vm = .none ∧ st.vm.findClass E = some ce.cls ∧ st.WarmedH t.vm ∧ st.sameButNew ({ t with vm := st.vm } : State) L mc ms ∧ ∀ z ∈ L, free z.base
def vx_Q (Qc : Array Value → State → Outcome → State → Prop) (XC : String → State → State → Prop) (mc ms : Nat) (free : Addr → Prop) : Array Value → State → Outcome → State → Prop := fun a st o t =>
  (Qc a st o t ∧ ∃ L, FrameEnd st o t L mc ms ∧ ∀ q ∈ L, free q.base) ∨ ∃ q, o = .threw q ∧ vx_T XC st q t mc ms free
/-- a callee that returns or throws -/
def vx_Met (l : Launch) (y : MethodName) (ws : List Cond) (rm : Room) (Pc : Array Value → State → Prop) (Qc : Array Value → State → Outcome → State → Prop) (XC : String → State → State → Prop) (mc ms : Nat) (free : Addr → Prop) : Prop :=
  MetFree l y (headSpec ws rm) Pc (fun _ _ _ _ _ => True) (vx_Q Qc XC mc ms free)
def vx_Post (XC : String → State → State → Prop) (mc ms : Nat) (free : Addr → Prop) : Pt → Array Value → Addr → Pt → Prop := fun A a q B =>
  ∃ (g : JFrame) (mk : MethodId) (t : State) (L : List Loc) (E : String) (ce : Cell), B.U.heap = t.heap ∧ B.U.vm = t.vm ∧ XC E (A.U.calling g mk a) t ∧ t.heap[q]? = some ce ∧ ce.vm = .none ∧ A.U.vm.findClass E = some ce.cls ∧ B.locs = A.locs ++ L ∧ (∀ z ∈ L, free z.base) ∧ B.cells = A.cells + mc ∧ B.slots = A.slots + ms
def vx_Back (l : Launch) (R : Room) (p : Program) (e : Env) (below : List Frame) (s : State) (sargs : Array Value) (y : MethodName) (len W9 : Nat)
    (Pre : Pt → Array Value → Prop) (Post : Pt → Array Value → Option Value → Pt → Prop) (PostX : Pt → Array Value → Addr → Pt → Prop) : Prop :=
  ∀ (m : MethodId) (meth : Method) (c : Code) (A : Pt) (g : JFrame) (ig : Instr) (mk : MethodId) (a : Array Value),
    Stand p l e R s m sargs below meth c A.U A.locs A.cells A.slots → g.method = m → g.locals.size = c.maxLocals → decode c.code g.pc = .ok (ig, len) →
    2 * g.monitorRoom + (g.stack.map fun v => v.category).sum ≤ W9 → A.U.methodNamed? y = some mk → Pre A a →
    (∃ (v : Option Value) (B : Pt), Stand p l e R s m sargs below meth c B.U B.locs B.cells B.slots ∧ Post A a v B ∧
      Steps p.tables e below (doInvoke e (A.U.setTop g) [] mk a).1 (B.U.setTop { g with pc := g.pc + len, stack := v.toList ++ g.stack })) ∨
    (∃ (q : Addr) (B : Pt), Stand p l e R s m sargs below meth c B.U B.locs B.cells B.slots ∧ PostX A a q B ∧
      Steps p.tables e below (doInvoke e (A.U.setTop g) [] mk a).1 ((B.U.setTop g).pushFrame (.throwing q)))
section Payer
variable {l : Launch} {R : Room} {p : Program} {e : Env} {below : List Frame} {s : State} {sargs : Array Value} {y : MethodName} {len W9 : Nat}
theorem vx_back {ws : List Cond} {rm : Room} {Pc : Array Value → State → Prop} {Qc : Array Value → State → Outcome → State → Prop} {XC : String → State → State → Prop} {mc ms : Nat} {free : Addr → Prop} {bytes : ByteArray} {maxL : Nat} {ret : Option FieldType}
    (hM : vx_Met l y ws rm Pc Qc XC mc ms free) (hblind : FrameBlind Pc) (hrc : rm.cells = mc) (hrs : rm.slots = ms)
    (hframes : rm.frames + 1 ≤ R.frames) (hlocals : W9 + (maxL + 11) + rm.locals ≤ R.locals)
    (hws : ∀ w ∈ ws, ∀ a' U, s.WarmedH U.vm → w.before a' U = true) (hcode : Cond.code y bytes maxL ret ∈ ws) (hinit : ∀ a' U, s.WarmedH U.vm → (Cond.initialized y.cls).before a' U = true) :
    vx_Back l R p e below s sargs y len W9 (PreOf R mc ms Pc) (PostOf Qc mc ms free) (vx_Post XC mc ms free) := by
  intro m meth c A g ig mk a X hg hsize hdg hW hn hp
  have h1 : (headSpec ws rm).pre.before a A.U = true := atoms_intro fun w hw => hws w hw _ _ X.warmed
  have h2 : (Cond.code y bytes maxL ret).before a A.U = true := hws _ hcode _ _ X.warmed
  have h3 : (Cond.initialized y.cls).before a A.U = true := hinit _ _ X.warmed
  have h4 : A.cells + (headSpec ws rm).room.cells ≤ R.cells := by rw [show (headSpec ws rm).room.cells = mc from hrc]; exact hp.1
  have h5 : A.slots + (headSpec ws rm).room.slots ≤ R.slots := by rw [show (headSpec ws rm).room.slots = ms from hrs]; exact hp.2.1
  have hPc : Pc a (A.U.calling g mk a) := hblind _ _ _ _ hp.2.2
  obtain ⟨U, Ls, c0, s0⟩ := A
  dsimp only [Pt.U, Pt.locs, Pt.cells, Pt.slots] at h1 h2 h3 h4 h5 X hn hPc ⊢
  obtain ⟨methY, cY, hmY, hcY, -, hlY, -, -, -, -⟩ := Cond.code_spec hn h2
  obtain ⟨kY, hkY, -⟩ := className_of_methodNamed hn
  have hinitY : kY.init = .initialized := Cond.initialized_spec (findClass_of_methodNamed hn) hkY h3
  have h : At U g.method c below := by rw [hg]; exact X.here
  have hlocals9 : W9 + (maxL + 11) + (headSpec ws rm).room.locals ≤ R.locals := hlocals
  have happ : (headSpec ws rm).appliesLoose y e.platform (U.calling g mk a) = true :=
    Spec.appliesLoose_calling (g := g) h hdg hn hkY hinitY
      (X.room_calling (g := g) (R' := (headSpec ws rm).room) hsize hmY hcY hframes (by rw [hlY]; omega) h4 h5) h1
  obtain ⟨mid, hmid⟩ := h.above
  have hfr : (U.setTop g).frames = (.java g :: mid) ++ below := by rw [State.frames_setTop' g h.top, hmid]; rfl
  obtain ⟨o, s₂, hsteps, -, hend, hq⟩ := Steps.callFree hM p X.admits X.cas X.clock (acts := []) hfr happ hPc trivial
  have hq' : vx_Q Qc XC mc ms free a (U.calling g mk a) o s₂ := hq
  rw [State.frames_setTop' g h.top] at hend
  obtain ⟨g₀, hg0⟩ := Option.isSome_iff_exists.mp h.top
  obtain ⟨r, hr⟩ := State.topJava?_eq_some.mp hg0
  have hr' : (({ U with heap := s₂.heap, slotsUsed := s₂.slotsUsed } : State).setVm s₂.vm).frames = .java g₀ :: r := hr
  rcases hq' with ⟨hqc, L, hfe, hL⟩ | ⟨q, rfl, E, ce, L, hx, hce, hcv, hcl, hW₂, hsm, hL⟩
  · obtain ⟨⟨v, rfl⟩, hW₂, e2, q2, q3, q4, q5, q6⟩ := id hfe
    have e3 : s₂ = ({ (U.calling g mk a).setFrames s₂.frames with heap := s₂.heap, slotsUsed := s₂.slotsUsed } : State).setVm s₂.vm := by
      have : s₂ = ({ s₂ with vm := (U.calling g mk a).vm } : State).setVm s₂.vm := rfl
      rw [e2] at this
      exact this
    obtain ⟨c₂, i₂, len₂, hc₂, hd₂, hf₂⟩ := hend
    have hW' : U.WarmedH s₂.vm := hW₂
    have hcc : c₂ = c := by
      have h1 : s₂.code? g.method = U.code? g.method := by
        rw [State.code?_eq, State.code?_eq, hW'.alike.method?]
      exact Option.some.inj (hc₂.symm.trans (h1.trans h.code))
    subst hcc
    have hlen : len₂ = len := by rw [hdg] at hd₂; cases hd₂; rfl
    subst hlen
    have hs₂ : s₂ = (({ U with heap := s₂.heap, slotsUsed := s₂.slotsUsed } : State).setVm s₂.vm).setTop { g with pc := g.pc + len₂, stack := v.toList ++ g.stack } := by
      refine e3.trans ?_
      rw [hf₂, State.calling_eq h.top, State.setFrames_setFrames, State.setTop_of_frames _ hr', hr]
      rfl
    have hsame : U.sameButNew ({ U with heap := s₂.heap, slotsUsed := s₂.slotsUsed } : State) L mc ms := by
      refine ⟨?_, q2, q3, q4, q5, q6⟩
      obtain ⟨t, ht, -⟩ := State.frames_cons hr
      show ({ U with heap := s₂.heap, slotsUsed := s₂.slotsUsed } : State) = { U.setFrames U.frames with heap := s₂.heap, slotsUsed := s₂.slotsUsed }
      rw [State.setFrames_self ht]
    subst hg
    refine Or.inl ⟨v, ⟨(({ U with heap := s₂.heap, slotsUsed := s₂.slotsUsed } : State).setVm s₂.vm), Ls ++ L, c0 + mc, s0 + ms⟩,
      ⟨X.admits, X.cas, X.clock, X.frames, X.room, X.hears, X.method, X.code, (X.here.setHeapUsed s₂.heap s₂.slotsUsed).setVm hW'.alike, X.tail, State.WarmedH.trans X.warmed hW', X.limits, X.bytes, X.same.trans (hsame.setVm s.vm)⟩,
      ⟨g, mk, s₂, L, rfl, rfl, hqc, rfl, hL, rfl, rfl⟩, ?_⟩
    show Steps p.tables e below _ ((({ U with heap := s₂.heap, slotsUsed := s₂.slotsUsed } : State).setVm s₂.vm).setTop { g with pc := g.pc + len₂, stack := v.toList ++ g.stack })
    rw [← hs₂]
    exact hsteps
  · obtain ⟨e2, q2, q3, q4, q5, q6⟩ := id hsm
    have e3 : s₂ = ({ (U.calling g mk a).setFrames s₂.frames with heap := s₂.heap, slotsUsed := s₂.slotsUsed } : State).setVm s₂.vm := by
      have : s₂ = ({ s₂ with vm := (U.calling g mk a).vm } : State).setVm s₂.vm := rfl
      rw [e2] at this
      exact this
    have hf₂ : s₂.frames = .throwing q :: .java g :: U.frames.tail := hend
    have hW' : U.WarmedH s₂.vm := hW₂
    have hs₂ : s₂ = ((({ U with heap := s₂.heap, slotsUsed := s₂.slotsUsed } : State).setVm s₂.vm).setTop g).pushFrame (.throwing q) := by
      refine e3.trans ?_
      rw [hf₂, State.calling_eq h.top, State.setFrames_setFrames, State.pushFrame, State.frames_setTop _ hr', State.setTop_of_frames _ hr', State.setFrames_setFrames, hr]
      rfl
    have hsame : U.sameButNew ({ U with heap := s₂.heap, slotsUsed := s₂.slotsUsed } : State) L mc ms := by
      refine ⟨?_, q2, q3, q4, q5, q6⟩
      obtain ⟨t, ht, -⟩ := State.frames_cons hr
      show ({ U with heap := s₂.heap, slotsUsed := s₂.slotsUsed } : State) = { U.setFrames U.frames with heap := s₂.heap, slotsUsed := s₂.slotsUsed }
      rw [State.setFrames_self ht]
    subst hg
    refine Or.inr ⟨q, ⟨(({ U with heap := s₂.heap, slotsUsed := s₂.slotsUsed } : State).setVm s₂.vm), Ls ++ L, c0 + mc, s0 + ms⟩,
      ⟨X.admits, X.cas, X.clock, X.frames, X.room, X.hears, X.method, X.code, (X.here.setHeapUsed s₂.heap s₂.slotsUsed).setVm hW'.alike, X.tail, State.WarmedH.trans X.warmed hW', X.limits, X.bytes, X.same.trans (hsame.setVm s.vm)⟩,
      ⟨g, mk, s₂, L, E, ce, rfl, rfl, hx, hce, hcv, hcl, rfl, hL, rfl, rfl⟩, ?_⟩
    show Steps p.tables e below _ (((({ U with heap := s₂.heap, slotsUsed := s₂.slotsUsed } : State).setVm s₂.vm).setTop g).pushFrame (.throwing q))
    rw [← hs₂]
    exact hsteps
end Payer
section Calls
variable {p : Program} {l : Launch} {e : Env} {R : Room} {s : State} {m : MethodId} {args : Array Value} {below : List Frame} {meth : Method} {c : Code} {T : State} {locs : List Loc} {cells slots : Nat}
theorem vx_callV (X : Stand p l e R s m args below meth c T locs cells slots) (hexec : p.tables.exec = Jvm.exec) {own C : String} {index : Nat} {y : MethodName} {bytes : ByteArray} {maxL : Nat} {ret : Option FieldType}
    (hown : s.vm.findClass own = some m.cls) (hlink : (Cond.methodLink own index y).before args s = true) (hinst : (Cond.instanceMethod y).before args s = true) (hsel : (Cond.selects C y y).before args s = true)
    (hcode : (Cond.code y bytes maxL ret).before args s = true) (hy : y.cls ≠ "java/lang/invoke/MethodHandle" ∧ y.cls ≠ "java/lang/invoke/VarHandle")
    {W9 : Nat} {Pre : Pt → Array Value → Prop} {Post : Pt → Array Value → Option Value → Pt → Prop} {PostX : Pt → Array Value → Addr → Pt → Prop} (hK : vx_Back l R p e below s args y 3 W9 Pre Post PostX)
    {b : Addr} {cellB : Cell} (hcell : T.heap[b]? = some cellB) (hobj : cellB.vm.isStatics = false) (hcls : s.vm.findClass C = some cellB.cls)
    {g : JFrame} (hg : g.method = m) (hsize : g.locals.size = c.maxLocals) {argsL rest : List Value} (hlen : ∀ sig, parseMethodDescriptor y.desc = some sig → argsL.length = sig.parameters.length)
    (hstack : g.stack = argsL.reverse ++ .ref b :: rest) (hW : 2 * g.monitorRoom + (rest.map fun v => v.category).sum ≤ W9) (hdg : decode c.code g.pc = .ok (.invokevirtual index, 3))
    (hpre : ∀ vm₁, s.WarmedH vm₁ → Pre ⟨T.setVm vm₁, locs, cells, slots⟩ (Value.ref b :: argsL).toArray) :
    (∃ (v : Option Value) (vm₁ : Vm) (B : Pt), s.WarmedH vm₁ ∧ Stand p l e R s m args below meth c B.U B.locs B.cells B.slots ∧ Post ⟨T.setVm vm₁, locs, cells, slots⟩ (Value.ref b :: argsL).toArray v B ∧
      ∀ target, Steps p.tables e below (B.U.setTop { g with pc := g.pc + 3, stack := v.toList ++ rest }) target → Steps p.tables e below (T.setTop g) target) ∨
    (∃ (q : Addr) (vm₁ : Vm) (B : Pt), s.WarmedH vm₁ ∧ Stand p l e R s m args below meth c B.U B.locs B.cells B.slots ∧ PostX ⟨T.setVm vm₁, locs, cells, slots⟩ (Value.ref b :: argsL).toArray q B ∧
      Steps p.tables e below (T.setTop g) ((B.U.setTop { g with stack := rest }).pushFrame (.throwing q))) := by
  obtain ⟨mk, methM, hnamed, hmethM, hstM, habM⟩ := Cond.instanceMethod_spec hinst
  obtain ⟨methM', cM, hmethM', -, -, -, -, -, -, hsigM⟩ := Cond.code_spec hnamed hcode
  cases hmethM.symm.trans hmethM'
  obtain ⟨c2, r2, m2, q1, q2, q3, q4, kP, hkP, hkPi⟩ := Cond.selects_spec hsel
  cases hcls.symm.trans q1
  cases (State.methodFound?_of_named hnamed hy).symm.trans q2
  cases hnamed.symm.trans q3
  have hselP : selectMethod e.platform s.vm cellB.cls mk = .method mk := by rw [Launch.admits_selectMethod X.admits]; exact q4
  obtain ⟨vm₁, X₁, hstep₁⟩ := X.invokevirtual hexec hown hlink hnamed hmethM hstM hkP hkPi hy (a := b) (cell := cellB) hcell
    (fun z h => by rw [h] at hobj; cases hobj) hselP hmethM habM hkP hkPi (g := g) hg (argsL := argsL) (rest := rest) (hlen _ hsigM) hstack hdg
  rcases hK m meth c ⟨T.setVm vm₁, locs, cells, slots⟩ { g with stack := rest } (.invokevirtual index) mk (Value.ref b :: argsL).toArray X₁ hg hsize hdg hW (X₁.named hnamed) (hpre vm₁ X₁.warmed) with ⟨v, B, X', hpost, hsteps⟩ | ⟨q, B, X', hpost, hsteps⟩
  · exact Or.inl ⟨v, vm₁, B, X₁.warmed, X', hpost, fun target h => hstep₁ _ fun acts => by rw [doInvoke_state]; exact hsteps.trans h⟩
  · exact Or.inr ⟨q, vm₁, B, X₁.warmed, X', hpost, hstep₁ _ fun acts => by rw [doInvoke_state]; exact hsteps⟩
theorem vx_callS (X : Stand p l e R s m args below meth c T locs cells slots) (hexec : p.tables.exec = Jvm.exec) {own : String} {index : Nat} {y : MethodName} {bytes : ByteArray} {maxL : Nat} {ret : Option FieldType}
    (hown : s.vm.findClass own = some m.cls) (hlink : (Cond.methodLink own index y).before args s = true) (hstat : (Cond.static y).before args s = true) (hinit : (Cond.initialized y.cls).before args s = true)
    (hcode : (Cond.code y bytes maxL ret).before args s = true) (hy : y.cls ≠ "java/lang/invoke/MethodHandle" ∧ y.cls ≠ "java/lang/invoke/VarHandle")
    {W9 : Nat} {Pre : Pt → Array Value → Prop} {Post : Pt → Array Value → Option Value → Pt → Prop} {PostX : Pt → Array Value → Addr → Pt → Prop} (hK : vx_Back l R p e below s args y 3 W9 Pre Post PostX)
    {g : JFrame} (hg : g.method = m) (hsize : g.locals.size = c.maxLocals) {argsL rest : List Value} (hlen : ∀ sig, parseMethodDescriptor y.desc = some sig → argsL.length = sig.parameters.length)
    (hstack : g.stack = argsL.reverse ++ rest) (hW : 2 * g.monitorRoom + (rest.map fun v => v.category).sum ≤ W9) (hdg : decode c.code g.pc = .ok (.invokestatic index, 3))
    (hpre : ∀ vm₁, s.WarmedH vm₁ → Pre ⟨T.setVm vm₁, locs, cells, slots⟩ argsL.toArray) :
    (∃ (v : Option Value) (vm₁ : Vm) (B : Pt), s.WarmedH vm₁ ∧ Stand p l e R s m args below meth c B.U B.locs B.cells B.slots ∧ Post ⟨T.setVm vm₁, locs, cells, slots⟩ argsL.toArray v B ∧
      ∀ target, Steps p.tables e below (B.U.setTop { g with pc := g.pc + 3, stack := v.toList ++ rest }) target → Steps p.tables e below (T.setTop g) target) ∨
    (∃ (q : Addr) (vm₁ : Vm) (B : Pt), s.WarmedH vm₁ ∧ Stand p l e R s m args below meth c B.U B.locs B.cells B.slots ∧ PostX ⟨T.setVm vm₁, locs, cells, slots⟩ argsL.toArray q B ∧
      Steps p.tables e below (T.setTop g) ((B.U.setTop { g with stack := rest }).pushFrame (.throwing q))) := by
  obtain ⟨mk, hnamed⟩ := Cond.code_named hcode
  obtain ⟨methM, cM, hmethM, -, -, -, -, -, -, hsigM⟩ := Cond.code_spec hnamed hcode
  have hstatic : methM.isStatic = true := Cond.static_spec hnamed hmethM hstat
  obtain ⟨kP, hkP, -⟩ := className_of_methodNamed hnamed
  have hinitP : kP.init = .initialized := Cond.initialized_spec (findClass_of_methodNamed hnamed) hkP hinit
  obtain ⟨vm₁, X₁, hstep₁⟩ := X.invokestatic hexec hown hlink hnamed hmethM hstatic hkP hinitP hy (g := g) hg (argsL := argsL) (rest := rest) (hlen _ hsigM) hstack hdg
  rcases hK m meth c ⟨T.setVm vm₁, locs, cells, slots⟩ { g with stack := rest } (.invokestatic index) mk argsL.toArray X₁ hg hsize hdg hW (X₁.named hnamed) (hpre vm₁ X₁.warmed) with ⟨v, B, X', hpost, hsteps⟩ | ⟨q, B, X', hpost, hsteps⟩
  · exact Or.inl ⟨v, vm₁, B, X₁.warmed, X', hpost, fun target h => hstep₁ _ fun acts => by rw [doInvoke_state]; exact hsteps.trans h⟩
  · exact Or.inr ⟨q, vm₁, B, X₁.warmed, X', hpost, hstep₁ _ fun acts => by rw [doInvoke_state]; exact hsteps⟩
end Calls
theorem vx_cls {s : State} {T : State} {vm₁ : Vm} {E : String} {k : ClassId} (hW : s.WarmedH vm₁) (h : (T.setVm vm₁).vm.findClass E = some k) : s.vm.findClass E = some k := by
  have h1 : vm₁.findClass E = some k := h
  rw [hW.alike.findClass] at h1
  exact h1
/-- the method's frame g, with q thrown over it -/
def vx_W (p : Program) (l : Launch) (e : Env) (R : Room) (s : State) (m : MethodId) (args : Array Value) (below : List Frame) (meth : Method) (c : Code) (H : Heap) (locs : List Loc) (cells slots : Nat) (Q : State → Prop) (g : JFrame) (q : Addr) : Prop :=
  ∀ T : State, T.heap = H → Stand p l e R s m args below meth c T locs cells slots → ∃ t, Steps p.tables e below ((T.setTop g).pushFrame (.throwing q)) t ∧ Q t
def vx_Run (p : Program) (l : Launch) (e : Env) (R : Room) (s : State) (m : MethodId) (args : Array Value) (below : List Frame) (meth : Method) (c : Code) (H : Heap) (locs : List Loc) (cells slots mc ms : Nat) (g : JFrame) (rest : List Value) (Qa : State → Outcome → State → Prop) (XC : String → State → State → Prop) (free : Addr → Prop) : Prop :=
  ∀ T : State, T.heap = H → Stand p l e R s m args below meth c T locs cells slots →
    (∃ (v : Option Value) (st₀ t T' : State) (L : List Loc), st₀.heap = H ∧ Stand p l e R s m args below meth c T' (locs ++ L) (cells + mc) (slots + ms) ∧ (∀ q ∈ L, free q.base) ∧ T'.heap = t.heap ∧ T'.vm = t.vm ∧ Qa st₀ (.returned v) t ∧
      Goes p e below T g T' { g with pc := g.pc + 3, stack := v.toList ++ rest }) ∨
    (∃ (q : Addr) (st₀ t T' : State) (L : List Loc) (E : String) (ce : Cell), st₀.heap = H ∧ Stand p l e R s m args below meth c T' (locs ++ L) (cells + mc) (slots + ms) ∧ (∀ z ∈ L, free z.base) ∧ T'.heap = t.heap ∧ T'.vm = t.vm ∧ XC E st₀ t ∧ t.heap[q]? = some ce ∧ ce.vm = .none ∧ s.vm.findClass E = some ce.cls ∧
      Steps p.tables e below (T.setTop g) ((T'.setTop { g with stack := rest }).pushFrame (.throwing q)))
def vx_X {S : Type} (px : S → Prop) (B : String → S → State → Prop) (A : Nat → Prop) : String → State → State → Prop := fun E st t => ∃ u : S, px u ∧ B E u t ∧ va_F A st t
section Runs
variable {p : Program} {l : Launch} {e : Env} {R : Room} {s : State} {m : MethodId} {args : Array Value} {below : List Frame} {meth : Method} {c : Code} {H : Heap} {locs : List Loc} {cells slots : Nat}
variable {y : MethodName} {bytes cc : ByteArray} {maxL nL mc ms n index : Nat} {ret : Option FieldType} {ws : List Cond} {rm : Room} {Pc : Array Value → State → Prop} {Qc : Array Value → State → Outcome → State → Prop} {XC : String → State → State → Prop} {free : Addr → Prop} {Ts : List Cond} {own C : String} {b : Addr} {As rest : List Value} {g : JFrame}
theorem vx_callBack (cb : CallB R s args own index y bytes maxL ret ws rm mc ms n) (hM : vx_Met l y ws rm Pc Qc XC mc ms free) (hbl : FrameBlind Pc) : vx_Back l R p e below s args y 3 8 (PreOf R mc ms Pc) (PostOf Qc mc ms free) (vx_Post XC mc ms free) := by
  obtain ⟨hrc, hrs, hfr, hlo, hws, hcw, -, hini, -⟩ := cb
  exact vx_back (bytes := bytes) (maxL := maxL) (ret := ret) hM hbl hrc hrs hfr hlo hws hcw (fun a' U hW => word_at hW (Or.inl (by first | rfl | simp [Cond.onTables, Cond.keeps, Cond.steady])) hini)
theorem vx_runV (S : CallFix p m c cc nL s args Ts own) (hM : vx_Met l y ws rm Pc Qc XC mc ms free) (cw : CallW R s args own C index y bytes maxL ret ws rm mc ms n) (hp : PreV s H C b Pc As)
    (hg : g.method = m) (hn : As.length = n) (hsize : g.locals.size = nL) (hstack : g.stack = As.reverse ++ .ref b :: rest) (hW : 2 * g.monitorRoom + (rest.map fun v => v.category).sum ≤ 8) (hdg : decode cc g.pc = .ok (.invokevirtual index, 3)) (hf : cells + mc ≤ R.cells ∧ slots + ms ≤ R.slots) :
    vx_Run p l e R s m args below meth c H locs cells slots mc ms g rest (Qc (Value.ref b :: As).toArray) XC free := by
  have hK : vx_Back l R p e below s args y 3 8 (PreOf R mc ms Pc) (PostOf Qc mc ms free) (vx_Post XC mc ms free) := vx_callBack cw.1 hM hp.1
  obtain ⟨⟨-, -, -, -, -, -, hcode, -, hy, hlen, hl⟩, hin, hse⟩ := cw
  obtain ⟨hx, hb, hml, ho, -⟩ := S
  obtain ⟨-, ⟨cellB, hcB, hoB, hclB⟩, hPc⟩ := hp
  intro T hT X
  rcases vx_callV X hx (C := C) (bytes := bytes) (maxL := maxL) (ret := ret) ho hl hin hse hcode hy hK (by rw [hT]; exact hcB) hoB hclB hg (hsize.trans hml.symm) (argsL := As) (rest := rest) (fun sig h => hn.trans (hlen sig h)) hstack hW (by rw [hb]; exact hdg)
    (fun vm₁ hW₁ => ⟨hf.1, hf.2, hPc (T.setVm vm₁) hT hW₁⟩) with ⟨v, vm₁, ⟨U', l2, c2, s2⟩, hW₁, X', ⟨g', mk, t, L, e1, e2, hq, h1, hL, h2, h3⟩, st⟩ | ⟨q, vm₁, ⟨U', l2, c2, s2⟩, hW₁, X', ⟨g', mk, t, L, E, ce, e1, e2, hq, hce, hcv, hcl, h1, hL, h2, h3⟩, st⟩
  · dsimp only [Pt.U, Pt.locs, Pt.cells, Pt.slots] at X' e1 e2 h1 h2 h3 st
    subst h1; subst h2; subst h3
    exact Or.inl ⟨v, (T.setVm vm₁).calling g' mk (Value.ref b :: As).toArray, t, U', L, hT, X', hL, e1, e2, hq, st⟩
  · dsimp only [Pt.U, Pt.locs, Pt.cells, Pt.slots] at X' e1 e2 h1 h2 h3 st hcl
    subst h1; subst h2; subst h3
    exact Or.inr ⟨q, (T.setVm vm₁).calling g' mk (Value.ref b :: As).toArray, t, U', L, E, ce, hT, X', hL, e1, e2, hq, hce, hcv, vx_cls hW₁ hcl, st⟩
theorem vx_runS (S : CallFix p m c cc nL s args Ts own) (hM : vx_Met l y ws rm Pc Qc XC mc ms free) (cw : CallB R s args own index y bytes maxL ret ws rm mc ms n ∧ (Cond.static y).before args s = true) (hp : PreS s H Pc As)
    (hg : g.method = m) (hn : As.length = n) (hsize : g.locals.size = nL) (hstack : g.stack = As.reverse ++ rest) (hW : 2 * g.monitorRoom + (rest.map fun v => v.category).sum ≤ 8) (hdg : decode cc g.pc = .ok (.invokestatic index, 3)) (hf : cells + mc ≤ R.cells ∧ slots + ms ≤ R.slots) :
    vx_Run p l e R s m args below meth c H locs cells slots mc ms g rest (Qc As.toArray) XC free := by
  have hK : vx_Back l R p e below s args y 3 8 (PreOf R mc ms Pc) (PostOf Qc mc ms free) (vx_Post XC mc ms free) := vx_callBack cw.1 hM hp.1
  obtain ⟨⟨-, -, -, -, -, -, hcode, hini, hy, hlen, hl⟩, hstt⟩ := cw
  obtain ⟨hx, hb, hml, ho, -⟩ := S
  intro T hT X
  rcases vx_callS X hx (bytes := bytes) (maxL := maxL) (ret := ret) ho hl hstt hini hcode hy hK hg (hsize.trans hml.symm) (argsL := As) (rest := rest) (fun sig h => hn.trans (hlen sig h)) hstack hW (by rw [hb]; exact hdg)
    (fun vm₁ hW₁ => ⟨hf.1, hf.2, hp.2 (T.setVm vm₁) hT hW₁⟩) with ⟨v, vm₁, ⟨U', l2, c2, s2⟩, hW₁, X', ⟨g', mk, t, L, e1, e2, hq, h1, hL, h2, h3⟩, st⟩ | ⟨q, vm₁, ⟨U', l2, c2, s2⟩, hW₁, X', ⟨g', mk, t, L, E, ce, e1, e2, hq, hce, hcv, hcl, h1, hL, h2, h3⟩, st⟩
  · dsimp only [Pt.U, Pt.locs, Pt.cells, Pt.slots] at X' e1 e2 h1 h2 h3 st
    subst h1; subst h2; subst h3
    exact Or.inl ⟨v, (T.setVm vm₁).calling g' mk As.toArray, t, U', L, hT, X', hL, e1, e2, hq, st⟩
  · dsimp only [Pt.U, Pt.locs, Pt.cells, Pt.slots] at X' e1 e2 h1 h2 h3 st hcl
    subst h1; subst h2; subst h3
    exact Or.inr ⟨q, (T.setVm vm₁).calling g' mk As.toArray, t, U', L, E, ce, hT, X', hL, e1, e2, hq, hce, hcv, vx_cls hW₁ hcl, st⟩
end Runs
section Rows
variable {p : Program} {l : Launch} {e : Env} {R : Room} {s : State} {m : MethodId} {args : Array Value} {below : List Frame} {meth : Method} {c : Code} {H : Heap} {locs : List Loc} {cells slots : Nat} {Q : State → Prop}
variable {mc ms : Nat} {free : Addr → Prop} {A0 A1 : Nat → Prop} {H0 : Heap} {a : Array Value} {pc : Nat} {ls : Array Slot} {st0 rest : List Value}
theorem vx_keep {st₀ t T' : State} {L : List Loc} (h0 : st₀.heap = H) (e1 : T'.heap = t.heap) (hS : va_S A0 H0 H locs) (hA : ∀ q, q < H.size → A1 q → A0 q) (hf : ∀ q, free q → A0 q) (hL : ∀ q ∈ L, free q.base) (hF : va_F A1 st₀ t) :
    H.size ≤ T'.heap.size ∧ (∀ q : Nat, q < H.size → ¬ A1 q → T'.heap[q]? = H[q]?) ∧ va_S A0 H0 T'.heap (locs ++ L) := by
  obtain ⟨hz, hk⟩ := hF
  rw [h0] at hz hk
  exact ⟨by rw [e1]; exact hz, fun q h1 h2 => by rw [e1]; exact hk q h1 h2,
    ⟨Nat.le_trans hS.1 (by rw [e1]; exact hz), fun q h1 h2 => by rw [e1, hk q (Nat.lt_of_lt_of_le h1 hS.1) (fun z => h2 (hA q (Nat.lt_of_lt_of_le h1 hS.1) z))]; exact hS.2.1 q h1 h2, fun q hq => by
      rcases List.mem_append.mp hq with h | h
      · exact hS.2.2 q h
      · exact hf _ (hL q h)⟩⟩
theorem vx_calli {S SX : Type} {post : Int32 → S → Prop} {px : SX → Prop} {B : S → State → Prop} {BX : String → SX → State → Prop} {AX : Nat → Prop} (hr : vx_Run p l e R s m args below meth c H locs cells slots mc ms (F0 m pc ls st0) rest (va_Qi post B A1 a) (vx_X px BX AX) free) (hS : va_S A0 H0 H locs) (hA : ∀ q, q < H.size → A1 q → A0 q) (hf : ∀ q, free q → A0 q) (hAX : ∀ q, q < H.size → AX q → A0 q)
    (kx : ∀ (E : String) (ce : Cell) (q9 : Addr) (u : SX) (t : State) (H1 : Heap) (locs1 : List Loc), t.heap = H1 → s.vm.Alike t.vm → px u → BX E u t → H.size ≤ H1.size → (∀ q : Nat, q < H.size → ¬ AX q → H1[q]? = H[q]?) → va_S A0 H0 H1 locs1 → H1[q9]? = some ce → ce.vm = .none → s.vm.findClass E = some ce.cls → vx_W p l e R s m args below meth c H1 locs1 (cells + mc) (slots + ms) Q (F0 m pc ls rest) q9)
    (kk : ∀ (r : Int32) (u : S) (t : State) (H1 : Heap) (locs1 : List Loc), t.heap = H1 → s.vm.Alike t.vm → post r u → B u t → H.size ≤ H1.size → (∀ q : Nat, q < H.size → ¬ A1 q → H1[q]? = H[q]?) → va_S A0 H0 H1 locs1 → W p l e R s m args below meth c H1 locs1 (cells + mc) (slots + ms) Q (F0 m (pc + 3) ls (.int r :: rest))) : W p l e R s m args below meth c H locs cells slots Q (F0 m pc ls st0) := by
  intro T hT X
  rcases hr T hT X with ⟨v, st₀, t, T', L, h0, X', hL, e1, e2, ⟨⟨r, u, hv, hp, hb⟩, hF⟩, st⟩ | ⟨q, st₀, t, T', L, E, ce, h0, X', hL, e1, e2, ⟨u, hp, hb, hF⟩, hce, hcv, hcl, st⟩
  · cases hv
    obtain ⟨k1, k2, k3⟩ := vx_keep h0 e1 hS hA hf hL hF
    obtain ⟨t2, a1, b1⟩ := kk r u t T'.heap (locs ++ L) e1.symm (by rw [← e2]; exact X'.warmed.alike) hp hb k1 k2 k3 T' rfl X'
    exact ⟨t2, st t2 a1, b1⟩
  · obtain ⟨k1, k2, k3⟩ := vx_keep h0 e1 hS hAX hf hL hF
    obtain ⟨t2, a1, b1⟩ := kx E ce q u t T'.heap (locs ++ L) e1.symm (by rw [← e2]; exact X'.warmed.alike) hp hb k1 k2 k3 (by rw [e1]; exact hce) hcv hcl T' rfl X'
    exact ⟨t2, st.trans a1, b1⟩
theorem vx_calll {S SX : Type} {post : Int64 → S → Prop} {px : SX → Prop} {B : S → State → Prop} {BX : String → SX → State → Prop} {AX : Nat → Prop} (hr : vx_Run p l e R s m args below meth c H locs cells slots mc ms (F0 m pc ls st0) rest (va_Ql post B A1 a) (vx_X px BX AX) free) (hS : va_S A0 H0 H locs) (hA : ∀ q, q < H.size → A1 q → A0 q) (hf : ∀ q, free q → A0 q) (hAX : ∀ q, q < H.size → AX q → A0 q)
    (kx : ∀ (E : String) (ce : Cell) (q9 : Addr) (u : SX) (t : State) (H1 : Heap) (locs1 : List Loc), t.heap = H1 → s.vm.Alike t.vm → px u → BX E u t → H.size ≤ H1.size → (∀ q : Nat, q < H.size → ¬ AX q → H1[q]? = H[q]?) → va_S A0 H0 H1 locs1 → H1[q9]? = some ce → ce.vm = .none → s.vm.findClass E = some ce.cls → vx_W p l e R s m args below meth c H1 locs1 (cells + mc) (slots + ms) Q (F0 m pc ls rest) q9)
    (kk : ∀ (r : Int64) (u : S) (t : State) (H1 : Heap) (locs1 : List Loc), t.heap = H1 → s.vm.Alike t.vm → post r u → B u t → H.size ≤ H1.size → (∀ q : Nat, q < H.size → ¬ A1 q → H1[q]? = H[q]?) → va_S A0 H0 H1 locs1 → W p l e R s m args below meth c H1 locs1 (cells + mc) (slots + ms) Q (F0 m (pc + 3) ls (.long r :: rest))) : W p l e R s m args below meth c H locs cells slots Q (F0 m pc ls st0) := by
  intro T hT X
  rcases hr T hT X with ⟨v, st₀, t, T', L, h0, X', hL, e1, e2, ⟨⟨r, u, hv, hp, hb⟩, hF⟩, st⟩ | ⟨q, st₀, t, T', L, E, ce, h0, X', hL, e1, e2, ⟨u, hp, hb, hF⟩, hce, hcv, hcl, st⟩
  · cases hv
    obtain ⟨k1, k2, k3⟩ := vx_keep h0 e1 hS hA hf hL hF
    obtain ⟨t2, a1, b1⟩ := kk r u t T'.heap (locs ++ L) e1.symm (by rw [← e2]; exact X'.warmed.alike) hp hb k1 k2 k3 T' rfl X'
    exact ⟨t2, st t2 a1, b1⟩
  · obtain ⟨k1, k2, k3⟩ := vx_keep h0 e1 hS hAX hf hL hF
    obtain ⟨t2, a1, b1⟩ := kx E ce q u t T'.heap (locs ++ L) e1.symm (by rw [← e2]; exact X'.warmed.alike) hp hb k1 k2 k3 (by rw [e1]; exact hce) hcv hcl T' rfl X'
    exact ⟨t2, st.trans a1, b1⟩
theorem vx_callf {S SX : Type} {post : UInt32 → S → Prop} {px : SX → Prop} {B : S → State → Prop} {BX : String → SX → State → Prop} {AX : Nat → Prop} (hr : vx_Run p l e R s m args below meth c H locs cells slots mc ms (F0 m pc ls st0) rest (va_Qf post B A1 a) (vx_X px BX AX) free) (hS : va_S A0 H0 H locs) (hA : ∀ q, q < H.size → A1 q → A0 q) (hf : ∀ q, free q → A0 q) (hAX : ∀ q, q < H.size → AX q → A0 q)
    (kx : ∀ (E : String) (ce : Cell) (q9 : Addr) (u : SX) (t : State) (H1 : Heap) (locs1 : List Loc), t.heap = H1 → s.vm.Alike t.vm → px u → BX E u t → H.size ≤ H1.size → (∀ q : Nat, q < H.size → ¬ AX q → H1[q]? = H[q]?) → va_S A0 H0 H1 locs1 → H1[q9]? = some ce → ce.vm = .none → s.vm.findClass E = some ce.cls → vx_W p l e R s m args below meth c H1 locs1 (cells + mc) (slots + ms) Q (F0 m pc ls rest) q9)
    (kk : ∀ (r : UInt32) (u : S) (t : State) (H1 : Heap) (locs1 : List Loc), t.heap = H1 → s.vm.Alike t.vm → post r u → B u t → H.size ≤ H1.size → (∀ q : Nat, q < H.size → ¬ A1 q → H1[q]? = H[q]?) → va_S A0 H0 H1 locs1 → W p l e R s m args below meth c H1 locs1 (cells + mc) (slots + ms) Q (F0 m (pc + 3) ls (.float r :: rest))) : W p l e R s m args below meth c H locs cells slots Q (F0 m pc ls st0) := by
  intro T hT X
  rcases hr T hT X with ⟨v, st₀, t, T', L, h0, X', hL, e1, e2, ⟨⟨r, u, hv, hp, hb⟩, hF⟩, st⟩ | ⟨q, st₀, t, T', L, E, ce, h0, X', hL, e1, e2, ⟨u, hp, hb, hF⟩, hce, hcv, hcl, st⟩
  · cases hv
    obtain ⟨k1, k2, k3⟩ := vx_keep h0 e1 hS hA hf hL hF
    obtain ⟨t2, a1, b1⟩ := kk r u t T'.heap (locs ++ L) e1.symm (by rw [← e2]; exact X'.warmed.alike) hp hb k1 k2 k3 T' rfl X'
    exact ⟨t2, st t2 a1, b1⟩
  · obtain ⟨k1, k2, k3⟩ := vx_keep h0 e1 hS hAX hf hL hF
    obtain ⟨t2, a1, b1⟩ := kx E ce q u t T'.heap (locs ++ L) e1.symm (by rw [← e2]; exact X'.warmed.alike) hp hb k1 k2 k3 (by rw [e1]; exact hce) hcv hcl T' rfl X'
    exact ⟨t2, st.trans a1, b1⟩
theorem vx_calld {S SX : Type} {post : UInt64 → S → Prop} {px : SX → Prop} {B : S → State → Prop} {BX : String → SX → State → Prop} {AX : Nat → Prop} (hr : vx_Run p l e R s m args below meth c H locs cells slots mc ms (F0 m pc ls st0) rest (va_Qd post B A1 a) (vx_X px BX AX) free) (hS : va_S A0 H0 H locs) (hA : ∀ q, q < H.size → A1 q → A0 q) (hf : ∀ q, free q → A0 q) (hAX : ∀ q, q < H.size → AX q → A0 q)
    (kx : ∀ (E : String) (ce : Cell) (q9 : Addr) (u : SX) (t : State) (H1 : Heap) (locs1 : List Loc), t.heap = H1 → s.vm.Alike t.vm → px u → BX E u t → H.size ≤ H1.size → (∀ q : Nat, q < H.size → ¬ AX q → H1[q]? = H[q]?) → va_S A0 H0 H1 locs1 → H1[q9]? = some ce → ce.vm = .none → s.vm.findClass E = some ce.cls → vx_W p l e R s m args below meth c H1 locs1 (cells + mc) (slots + ms) Q (F0 m pc ls rest) q9)
    (kk : ∀ (r : UInt64) (u : S) (t : State) (H1 : Heap) (locs1 : List Loc), t.heap = H1 → s.vm.Alike t.vm → post r u → B u t → H.size ≤ H1.size → (∀ q : Nat, q < H.size → ¬ A1 q → H1[q]? = H[q]?) → va_S A0 H0 H1 locs1 → W p l e R s m args below meth c H1 locs1 (cells + mc) (slots + ms) Q (F0 m (pc + 3) ls (.double r :: rest))) : W p l e R s m args below meth c H locs cells slots Q (F0 m pc ls st0) := by
  intro T hT X
  rcases hr T hT X with ⟨v, st₀, t, T', L, h0, X', hL, e1, e2, ⟨⟨r, u, hv, hp, hb⟩, hF⟩, st⟩ | ⟨q, st₀, t, T', L, E, ce, h0, X', hL, e1, e2, ⟨u, hp, hb, hF⟩, hce, hcv, hcl, st⟩
  · cases hv
    obtain ⟨k1, k2, k3⟩ := vx_keep h0 e1 hS hA hf hL hF
    obtain ⟨t2, a1, b1⟩ := kk r u t T'.heap (locs ++ L) e1.symm (by rw [← e2]; exact X'.warmed.alike) hp hb k1 k2 k3 T' rfl X'
    exact ⟨t2, st t2 a1, b1⟩
  · obtain ⟨k1, k2, k3⟩ := vx_keep h0 e1 hS hAX hf hL hF
    obtain ⟨t2, a1, b1⟩ := kx E ce q u t T'.heap (locs ++ L) e1.symm (by rw [← e2]; exact X'.warmed.alike) hp hb k1 k2 k3 (by rw [e1]; exact hce) hcv hcl T' rfl X'
    exact ⟨t2, st.trans a1, b1⟩
theorem vx_callv {S SX : Type} {post : S → Prop} {px : SX → Prop} {B : S → State → Prop} {BX : String → SX → State → Prop} {AX : Nat → Prop} (hr : vx_Run p l e R s m args below meth c H locs cells slots mc ms (F0 m pc ls st0) rest (va_Qv post B A1 a) (vx_X px BX AX) free) (hS : va_S A0 H0 H locs) (hA : ∀ q, q < H.size → A1 q → A0 q) (hf : ∀ q, free q → A0 q) (hAX : ∀ q, q < H.size → AX q → A0 q)
    (kx : ∀ (E : String) (ce : Cell) (q9 : Addr) (u : SX) (t : State) (H1 : Heap) (locs1 : List Loc), t.heap = H1 → s.vm.Alike t.vm → px u → BX E u t → H.size ≤ H1.size → (∀ q : Nat, q < H.size → ¬ AX q → H1[q]? = H[q]?) → va_S A0 H0 H1 locs1 → H1[q9]? = some ce → ce.vm = .none → s.vm.findClass E = some ce.cls → vx_W p l e R s m args below meth c H1 locs1 (cells + mc) (slots + ms) Q (F0 m pc ls rest) q9)
    (kk : ∀ (u : S) (t : State) (H1 : Heap) (locs1 : List Loc), t.heap = H1 → s.vm.Alike t.vm → post u → B u t → H.size ≤ H1.size → (∀ q : Nat, q < H.size → ¬ A1 q → H1[q]? = H[q]?) → va_S A0 H0 H1 locs1 → W p l e R s m args below meth c H1 locs1 (cells + mc) (slots + ms) Q (F0 m (pc + 3) ls (rest))) : W p l e R s m args below meth c H locs cells slots Q (F0 m pc ls st0) := by
  intro T hT X
  rcases hr T hT X with ⟨v, st₀, t, T', L, h0, X', hL, e1, e2, ⟨⟨u, hv, hp, hb⟩, hF⟩, st⟩ | ⟨q, st₀, t, T', L, E, ce, h0, X', hL, e1, e2, ⟨u, hp, hb, hF⟩, hce, hcv, hcl, st⟩
  · cases hv
    obtain ⟨k1, k2, k3⟩ := vx_keep h0 e1 hS hA hf hL hF
    obtain ⟨t2, a1, b1⟩ := kk u t T'.heap (locs ++ L) e1.symm (by rw [← e2]; exact X'.warmed.alike) hp hb k1 k2 k3 T' rfl X'
    exact ⟨t2, st t2 a1, b1⟩
  · obtain ⟨k1, k2, k3⟩ := vx_keep h0 e1 hS hAX hf hL hF
    obtain ⟨t2, a1, b1⟩ := kx E ce q u t T'.heap (locs ++ L) e1.symm (by rw [← e2]; exact X'.warmed.alike) hp hb k1 k2 k3 (by rw [e1]; exact hce) hcv hcl T' rfl X'
    exact ⟨t2, st.trans a1, b1⟩
/-- caught by the row x of this method's table; the rows ahead don't take it -/
theorem vx_catch {own name : String} {E : String} {ce : Cell} {q : Addr} (hown : s.vm.findClass own = some m.cls) (pre : List ExceptionTableEntry) (x : ExceptionTableEntry) (suf : List ExceptionTableEntry) (hsplit : c.exceptionTable.toList = pre ++ x :: suf)
    (hpass : ∀ z ∈ pre, covers z pc = false ∨ (z.catchType ≠ 0 ∧ ∃ nm : String, (Cond.classLink own z.catchType nm).before args s = true ∧ va_Nc E nm s)) (hx : covers x pc = true) (h0 : x.catchType ≠ 0)
    (hlink : (Cond.classLink own x.catchType name).before args s = true) (hcast : (Cond.castable E name).before args s = true) (hcell : H[q]? = some ce) (hv : ce.vm = .none) (hcl : s.vm.findClass E = some ce.cls)
    (kk : W p l e R s m args below meth c H locs cells slots Q (F0 m x.handlerPc ls [.ref q])) : vx_W p l e R s m args below meth c H locs cells slots Q (F0 m pc ls rest) q := by
  intro T hT X
  have hpl : e.platform.magicAccessors = ({} : Platform).magicAccessors := by rw [X.admits.platform]
  obtain ⟨c3, c4, hc3, hc4, hasg⟩ := Cond.castable_spec hcast
  cases Option.some.inj (hc3.symm.trans hcl)
  obtain ⟨c5, hc5, hcl5⟩ := Cond.classLink_spec hown hlink e.platform hpl
  cases Option.some.inj (hc4.symm.trans hc5)
  obtain ⟨vm', X', st⟩ := X.thenCaughtThrough q (g := F0 m pc ls rest) rfl (Steps.refl _) (by rw [hT]; exact hcell) (by rw [hv]; rfl) (by obtain ⟨k9, h9, -⟩ := Vm.findClass_spec hcl; exact ⟨k9, h9⟩) pre x suf hsplit
    (fun z hz => by
      rcases hpass z hz with h | ⟨hz0, nm, hl1, hn1⟩
      · exact Or.inl h
      · obtain ⟨c6, hc6, hcl6⟩ := Cond.classLink_spec hown hl1 e.platform hpl
        obtain ⟨a8, b8, h1, h2, h3⟩ := hn1
        cases Option.some.inj (h1.symm.trans hcl)
        cases Option.some.inj (h2.symm.trans hc6)
        exact Or.inr ⟨hz0, _, hcl6, h3⟩) hx (Or.inr ⟨h0, c4, hcl5, hasg⟩)
  obtain ⟨t, a1, b1⟩ := kk (T.setVm vm') hT X'
  exact ⟨t, st.trans a1, b1⟩
end Rows
section Ends
variable {p : Program} {l : Launch} {e : Env} {R : Room} {s : State} {m : MethodId} {args : Array Value} {below : List Frame} {meth : Method} {c : Code} {H : Heap} {locs : List Loc} {cells slots : Nat} {Q : State → Prop}
variable {mc ms : Nat} {free : Addr → Prop} {A0 A1 : Nat → Prop} {H0 : Heap} {a : Array Value} {ls : Array Slot} {st0 rest : List Value}
variable {Qc : Array Value → State → Outcome → State → Prop} {XC : String → State → State → Prop}
/-- what a body that may throw owes at its end -/
def vx_MQ (below : List Frame) (Qc : Array Value → State → Outcome → State → Prop) (XC : String → State → State → Prop) (a : Array Value) (s : State) (mc ms : Nat) (free : Addr → Prop) : State → Prop := fun t =>
  ∃ o, t.status = .running ∧ Ended t below o ∧ vx_Q Qc XC mc ms free a s o t
theorem vx_ret {g : JFrame} {mc ms : Nat} (k : W p l e R s m args below meth c H locs cells slots (MQ below Qc args s mc ms free) g) : W p l e R s m args below meth c H locs cells slots (vx_MQ below Qc XC args s mc ms free) g := by
  intro T hT X
  obtain ⟨t, a1, o, b1, b2, b3, b4⟩ := k T hT X
  exact ⟨t, a1, o, b1, b2, Or.inl ⟨b3, b4⟩⟩
/-- not caught here: it goes on to the caller -/
theorem vx_widen {g : JFrame} {q : Addr} {k n : Nat} (h1 : cells ≤ k) (h2 : slots ≤ n) (kk : vx_W p l e R s m args below meth c H locs k n Q g q) : vx_W p l e R s m args below meth c H locs cells slots Q g q := fun T hT X => kk T hT (stand_widen X h1 h2)
theorem vx_out {pc : Nat} {E : String} {ce : Cell} {q : Addr} {mc ms : Nat} (hout : ∀ x ∈ c.exceptionTable.toList, covers x pc = false) (hlocks : meth.locks = false) (hcell : H[q]? = some ce) (hv : ce.vm = .none) (hcl : s.vm.findClass E = some ce.cls)
    (hx : ∀ t : State, t.heap = H → s.vm.Alike t.vm → XC E s t) (hf : ∀ z ∈ locs, free z.base) (hc : cells ≤ mc) (hs : slots ≤ ms) :
    vx_W p l e R s m args below meth c H locs cells slots (vx_MQ below Qc XC args s mc ms free) (F0 m pc ls rest) q := by
  intro T hT X
  obtain ⟨st1, hrun, hend, hW, hsm⟩ := X.leaveThrown q (g := F0 m pc ls rest) rfl rfl rfl hout hlocks
  have hcell9 : (T.setFrames (.throwing q :: below)).heap[q]? = some ce := by
    show T.heap[q]? = some ce
    rw [hT]; exact hcell
  exact ⟨_, st1, .threw q, hrun, hend, Or.inr ⟨q, rfl, E, ce, locs, hx _ hT hW.alike, hcell9, hv, hcl, hW, hsm.mono hc hs, hf⟩⟩
theorem vx_frame {U : State} {k n : Nat} (h : s.sameButNew ({ U with vm := s.vm } : State) locs k n) : s.heap.size ≤ U.heap.size ∧ ∀ q : Nat, q < s.heap.size → (∀ z ∈ locs, z.base ≠ q) → U.heap[q]? = s.heap[q]? := by
  obtain ⟨-, h2, -, -, -, h6⟩ := h
  refine ⟨h2, fun q hq hz => ?_⟩
  obtain ⟨c9, e1, e2, e3, e4⟩ := h6 q _ (Array.getElem?_eq_getElem hq)
  have hs : c9.slots = (s.heap[q]).slots := Array.ext_getElem? fun i => e4 i fun hm => hz _ hm rfl
  have h9 : c9 = s.heap[q] := by
    rw [hs] at e2
    exact e2
  have e5 : U.heap[q]? = some c9 := e1
  rw [e5, h9, Array.getElem?_eq_getElem hq]
/-- the words of a throw but the four that speak of the heap -/
def vx_no (w : Cond) : Bool := decide (w ≠ .isRef (.static Bundle.tN "UNASSIGNED_STACK" Bundle.steD)) && decide (w ≠ .isRef (.static Bundle.tN "SUPPRESSED_SENTINEL" Bundle.listD)) && decide (w ≠ .laysStatic Bundle.tN "UNASSIGNED_STACK" Bundle.steD) && decide (w ≠ .laysStatic Bundle.tN "SUPPRESSED_SENTINEL" Bundle.listD)
def vx_at0 (own : String) (ic : Nat) (X : String) (names : List String) : List Cond := (Bundle.ownAtoms0 own ic X names).filter vx_no
def vx_atS (own : String) (ic : Nat) (X : String) (names : List String) : List Cond := (Bundle.ownAtoms own ic X names).filter vx_no
/-- a word that the tables alone decide, or a good one -/
def vx_ot (w : Cond) : Bool := w.onTables || goodWord w
theorem vx_ot_at {args a' : Array Value} {s U : State} {w : Cond} (hW : s.WarmedH U.vm) (hvm : s.vm = U.vm) (hg : vx_ot w = true) (h : w.before args s = true) : w.before a' U = true := by
  simp only [vx_ot, Bool.or_eq_true] at hg
  rcases hg with hg | hg
  · exact va_tabs hg hvm h
  · exact word_at hW (good_of_word hg) h
/-- a list's words: the good ones out of the method's own list, the others by premises of their own -/
theorem vx_hat {args : Array Value} {s : State} {L B : List Cond} (h1 : ∀ w ∈ L.filter goodWord, w.before args s = true) (h2 : ∀ w ∈ L.filter (fun w => !goodWord w), w ∈ B) (h3 : ∀ w ∈ B, w.before args s = true) : ∀ w ∈ L, w.before args s = true := by
  intro w hw
  by_cases g : goodWord w = true
  · exact h1 w (List.mem_filter.mpr ⟨hw, g⟩)
  · refine h3 w (h2 w (List.mem_filter.mpr ⟨hw, ?_⟩))
    show (!goodWord w) = true
    cases hgw : goodWord w
    · rfl
    · exact absurd hgw g
theorem vx_c {args : Array Value} {s : State} {w : Cond} {B : List Cond} (h : w.before args s = true) (t : ∀ w ∈ B, w.before args s = true) : ∀ w' ∈ w :: B, w'.before args s = true := fun w' h' => (List.mem_cons.mp h').elim (fun e => by rw [e]; exact h) (t w')
theorem vx_n {args : Array Value} {s : State} : ∀ w ∈ ([] : List Cond), w.before args s = true := fun _ h => nomatch h
theorem vx_own {args : Array Value} {s : State} {L : List Cond} (h1 : ∀ w ∈ L.filter vx_no, w.before args s = true)
    (hU : (Cond.isRef (.static Bundle.tN "UNASSIGNED_STACK" Bundle.steD)).before args s = true) (hN : (Cond.isRef (.static Bundle.tN "SUPPRESSED_SENTINEL" Bundle.listD)).before args s = true)
    (lU : (Cond.laysStatic Bundle.tN "UNASSIGNED_STACK" Bundle.steD).before args s = true) (lN : (Cond.laysStatic Bundle.tN "SUPPRESSED_SENTINEL" Bundle.listD).before args s = true) : ∀ w ∈ L, w.before args s = true := by
  intro w hw
  by_cases e1 : w = .isRef (.static Bundle.tN "UNASSIGNED_STACK" Bundle.steD)
  · rw [e1]; exact hU
  · by_cases e2 : w = .isRef (.static Bundle.tN "SUPPRESSED_SENTINEL" Bundle.listD)
    · rw [e2]; exact hN
    · by_cases e3 : w = .laysStatic Bundle.tN "UNASSIGNED_STACK" Bundle.steD
      · rw [e3]; exact lU
      · by_cases e4 : w = .laysStatic Bundle.tN "SUPPRESSED_SENTINEL" Bundle.listD
        · rw [e4]; exact lN
        · exact h1 w (List.mem_filter.mpr ⟨hw, by unfold vx_no; rw [decide_eq_true e1, decide_eq_true e2, decide_eq_true e3, decide_eq_true e4]; rfl⟩)
/-- where a static field lies, its class's statics cell in H -/
def vx_L (C n d : String) (A : Nat → Prop) (U : State) (H : Heap) : Prop := ∃ (c : ClassId) (k : Class) (i : Nat) (f : Field) (a : Nat) (cell : Cell), U.vm.findClass C = some c ∧ U.fieldFound? C n d = some (c, k, i, f) ∧ f.isStatic = true ∧ k.statics = some a ∧ H[a]? = some cell ∧ cell.vm.isStatics = true ∧ cell.cls = c ∧ f.slot < cell.slots.size ∧ k.staticTypes[f.slot]? = some f.type ∧ ¬ A a
theorem vx_L.moved {C n d : String} {A : Nat → Prop} {u U : State} {H : Heap} (hvm : u.vm.Alike U.vm) (h : vx_L C n d A u H) : vx_L C n d A U H := by
  obtain ⟨c, k, i, f, a, cell, h1, h2, h3, h4, h5, h6, h7, h8, h9, h10⟩ := h
  obtain ⟨k', hi', he⟩ := State.fieldFound?_setVm hvm h2
  exact ⟨c, k', i, f, a, cell, by rw [hvm.findClass]; exact h1, hi', h3, by rw [he]; exact h4, h5, h6, h7, h8, by rw [he]; exact h9, h10⟩
theorem vx_L.kept {C n d : String} {A : Nat → Prop} {U : State} {H H1 : Heap} (h : vx_L C n d A U H) (hq : ∀ a : Nat, a < H.size → ¬ A a → H1[a]? = H[a]?) : vx_L C n d A U H1 := by
  obtain ⟨c, k, i, f, a, cell, h1, h2, h3, h4, h5, h6, h7, h8, h9, h10⟩ := h
  exact ⟨c, k, i, f, a, cell, h1, h2, h3, h4, by rw [hq a (Array.getElem?_eq_some_iff.mp h5).1 h10]; exact h5, h6, h7, h8, h9, h10⟩
theorem vx_L.narrow {C n d : String} {A B : Nat → Prop} {U : State} {H : Heap} (h : vx_L C n d A U H) (hAB : ∀ q, B q → A q) : vx_L C n d B U H := by
  obtain ⟨c, k, i, f, a, cell, h1, h2, h3, h4, h5, h6, h7, h8, h9, h10⟩ := h
  exact ⟨c, k, i, f, a, cell, h1, h2, h3, h4, h5, h6, h7, h8, h9, fun z => h10 (hAB _ z)⟩
theorem vx_L.word {C n d : String} {A : Nat → Prop} {s : State} {args : Array Value} (h : vx_L C n d A s s.heap) : (Cond.laysStatic C n d).before args s = true := by
  obtain ⟨c, k, i, f, a, cell, h1, h2, h3, h4, h5, h6, h7, h8, h9, -⟩ := h
  show (Cond.laysStatic C n d).holds args s none s [] = true
  exact Cond.laysStatic_of h1 h2 h3 h4 h5 h6 h7 h8 h9
/-- .. and what it holds: null or some reference -/
def vx_Zq (C n d : String) (A : Nat → Prop) (U : State) (H : Heap) : Prop := va_Zq C n d A U H ∧ vx_L C n d A U H
theorem vx_Zq.moved {C n d : String} {A : Nat → Prop} {u U : State} {H : Heap} (hvm : u.vm.Alike U.vm) (h : vx_Zq C n d A u H) : vx_Zq C n d A U H := ⟨va_Zq.moved hvm h.1, vx_L.moved hvm h.2⟩
theorem vx_Zq.kept {C n d : String} {A : Nat → Prop} {U : State} {H H1 : Heap} (h : vx_Zq C n d A U H) (hq : ∀ a : Nat, a < H.size → ¬ A a → H1[a]? = H[a]?) : vx_Zq C n d A U H1 := ⟨va_Zq.kept h.1 hq, vx_L.kept h.2 hq⟩
theorem vx_Zq.narrow {C n d : String} {A B : Nat → Prop} {U : State} {H : Heap} (h : vx_Zq C n d A U H) (hAB : ∀ q, B q → A q) : vx_Zq C n d B U H := ⟨va_Zq.narrow h.1 hAB, vx_L.narrow h.2 hAB⟩
theorem vx_Zqof {args : Array Value} {s : State} {C n d : String} {A : Nat → Prop} (hl : (Cond.laysStatic C n d).before args s = true) (hini : (Cond.initialized C).before args s = true) (h : (Cond.isRef (.static C n d)).before args s = true) (hA : ∀ a : Nat, a < s.heap.size → ¬ A a) : vx_Zq C n d A s s.heap := by
  refine ⟨va_Zqof hl hini h hA, ?_⟩
  obtain ⟨c, k, i, f, a, cell, h1, h2, h3, h4, h5, h6, h7, h8, h9⟩ := Cond.laysStatic_spec hl
  exact ⟨c, k, i, f, a, cell, h1, h2, h3, h4, h5, h6, h7, h8, h9, hA a (Array.getElem?_eq_some_iff.mp h5).1⟩
theorem vx_isRef {C n d : String} {v : Value} {A : Nat → Prop} {s : State} {args : Array Value} (h : va_Z C n d v A s s.heap) (hv : v.isRef = true) : (Cond.isRef (.static C n d)).before args s = true := by
  obtain ⟨cf, kf, fi, f, a, cell, h1, h2, h3, h4, h5, h6, h7, -⟩ := h
  have he : (Term.static C n d).eval args s none [] s = some v := by
    simp [Term.eval, State.fieldNamed?, h1, h2, h4, h5, h6, h7]
  simp only [Cond.before, Cond.holds, Cond.value, he]
  cases v <;> simp_all [Value.isRef]
theorem vx_isRefq {C n d : String} {A : Nat → Prop} {s : State} {args : Array Value} (h : va_Zq C n d A s s.heap) : (Cond.isRef (.static C n d)).before args s = true := by
  rcases h with h | ⟨t, h⟩
  · exact vx_isRef h rfl
  · exact vx_isRef h rfl
/-- the same frame, seen from here: as if the method were called anew in this heap -/
theorem vx_rebase {T : State} (X : Stand p l e R s m args below meth c T locs cells slots) {R' : Room} (hf : R'.frames ≤ R.frames) (hl : R'.locals ≤ R.locals) (hc : cells + R'.cells ≤ R.cells) (hs : slots + R'.slots ≤ R.slots) :
    Stand p l e R' ((T.setVm s.vm).setFrames (.invoking m args :: below)) m args below meth c T [] 0 0 := by
  have htop : (T.setVm s.vm).topJava?.isSome := X.here.top
  have hF : ((T.setVm s.vm).setFrames (.invoking m args :: below)).frames = .invoking m args :: below := State.frames_setFrames _ (State.cur_lt_of_top htop)
  obtain ⟨g₀, hg0⟩ := Option.isSome_iff_exists.mp htop
  obtain ⟨r, hr⟩ := State.topJava?_eq_some.mp hg0
  have hl9 : e.platform.stackLimits (T.setVm s.vm).me = e.platform.stackLimits s.me := X.limits
  have hb9 : (T.setVm s.vm).me.stackBytes = s.me.stackBytes := X.bytes
  refine ⟨X.admits, X.cas, X.clock, hF, ?_, X.hears, X.method, X.code, X.here, X.tail, X.warmed, ?_, ?_, ?_⟩
  · have h := X.room
    have hU : ((T.setVm s.vm).setFrames (.invoking m args :: below)).localsInUse = s.localsInUse := by
      rw [State.localsInUse_invoking hF (meth := meth) (c := c) X.method X.code, State.localsInUse_invoking X.frames X.method X.code]
    simp only [State.hasRoom, Bool.and_eq_true, decide_eq_true_eq] at h ⊢
    obtain ⟨⟨⟨⟨h1, h2, h3, h4, h5, h6⟩, h7⟩, h8⟩, h9⟩ := h
    rw [X.frames, List.length_cons] at h2 h3
    have q1 := X.heapSize
    have q2 := X.used
    simp only [hF, hU, List.length_cons, State.stackLimits_setFrames, State.stackBytes_setFrames, hl9, hb9]
    refine ⟨⟨⟨⟨by omega, by omega, by omega, by omega, by omega, h6⟩, ?_⟩, ?_⟩, X.book⟩
    · show T.heap.size + R'.cells ≤ e.platform.maxCells
      omega
    · show T.slotsUsed + R'.slots ≤ e.platform.maxSlots
      omega
  · rw [State.stackLimits_setFrames]; rfl
  · rw [State.stackBytes_setFrames]; rfl
  · refine ⟨?_, Nat.le_refl _, Nat.le_refl _, ?_, ?_, fun a c9 h9 => ⟨c9, h9, rfl, rfl, fun _ _ => rfl⟩⟩
    · obtain ⟨t, ht, -⟩ := State.frames_cons hr
      show T.setVm s.vm = { ((T.setVm s.vm).setFrames (.invoking m args :: below)).setFrames (T.setVm s.vm).frames with heap := T.heap, slotsUsed := T.slotsUsed }
      rw [State.setFrames_setFrames, State.setFrames_self ht]
      rfl
    · show T.slotsUsed = T.slotsUsed + ((T.heap.toList.drop T.heap.size).map (·.slots.size)).sum
      rw [List.drop_eq_nil_of_le (Nat.le_of_eq Array.length_toList)]
      rfl
    · show ((T.heap.toList.drop T.heap.size).map (·.slots.size)).sum ≤ 0
      rw [List.drop_eq_nil_of_le (Nat.le_of_eq Array.length_toList)]
      exact Nat.le_refl _
/-- 'throw new E()': new; dup; invokespecial; athrow -/
theorem vx_throw0 {cc : ByteArray} {pc : Nat} (hexec : p.tables.exec = Jvm.exec) (hb : c.code = cc) (hl : l.stackTraces = false) {own cls : String} {names : List String} {ik ic mc ms : Nat} {A : Nat → Prop}
    (hown : s.vm.findClass own = some m.cls) (hcls : Bundle.fit cls = true) (hnames : ∀ n ∈ names, Bundle.fit n = true)
    (hk : (Cond.classLink own ik cls).before args s = true) (hini : (Cond.initialized cls).before args s = true) (hat : ∀ w ∈ vx_at0 own ic cls names, w.before args s = true)
    (hgood : ∀ w ∈ Cond.classLink own ik cls :: Cond.initialized cls :: vx_at0 own ic cls names, vx_ot w = true)
    (hU : vx_Zq Bundle.tN "UNASSIGNED_STACK" Bundle.steD A s s.heap) (hN : vx_Zq Bundle.tN "SUPPRESSED_SENTINEL" Bundle.listD A s s.heap) (hS : va_S A s.heap H locs) (hsize : ls.size = c.maxLocals)
    (d0 : decode cc pc = .ok (.new ik, 3)) (d3 : decode cc (pc + 3) = .ok (.dup, 1)) (d4 : decode cc (pc + 4) = .ok (.invokespecial ic, 3)) (d7 : decode cc (pc + 7) = .ok (.athrow, 1))
    (hout : ∀ x ∈ c.exceptionTable.toList, covers x (pc + 7) = false)
    (hRframes : names.length + 3 < R.frames) (hRlocals : (rest.map fun v => v.category).sum + (13 * (names.length + 1) + 42) ≤ R.locals) (hRcells : cells + 1 ≤ R.cells) (hRslots : slots + 6 ≤ R.slots) (hlocks : meth.locks = false)
    (hx : ∀ t : State, s.vm.Alike t.vm → H.size ≤ t.heap.size → (∀ q : Nat, q < H.size → t.heap[q]? = H[q]?) → XC cls s t)
    (hf : ∀ z ∈ locs, free z.base) (hc : cells + 1 ≤ mc) (hs : slots + 6 ≤ ms) :
    W p l e R s m args below meth c H locs cells slots (vx_MQ below Qc XC args s mc ms free) (F0 m pc ls rest) := by
  intro T hT X
  have htr : e.platform.stackTraces = false := (show e.platform.stackTraces = l.stackTraces by rw [X.admits.platform]).trans hl
  have Y := vx_rebase X (R' := { frames := R.frames, locals := R.locals, cells := 1, slots := 6 }) (Nat.le_refl _) (Nat.le_refl _) hRcells hRslots
  obtain ⟨s', hA⟩ : ∃ z, z = (T.setVm s.vm).setFrames (.invoking m args :: below) := ⟨_, rfl⟩
  rw [← hA] at Y
  have hvm : s'.vm = s.vm := by rw [hA]; rfl
  have hhp : s'.heap = H := by rw [hA]; exact hT
  have hW0 : s.WarmedH s'.vm := by rw [hvm]; exact State.WarmedH.refl s
  have hat' : ∀ w ∈ vx_at0 own ic cls names, w.before args s' = true := fun w hw => vx_ot_at hW0 hvm.symm (hgood w (List.mem_cons_of_mem _ (List.mem_cons_of_mem _ hw))) (hat w hw)
  have hk' : (Cond.classLink own ik cls).before args s' = true := vx_ot_at hW0 hvm.symm (hgood _ List.mem_cons_self) hk
  have hini' : (Cond.initialized cls).before args s' = true := vx_ot_at hW0 hvm.symm (hgood _ (List.mem_cons_of_mem _ List.mem_cons_self)) hini
  have hU' : vx_Zq Bundle.tN "UNASSIGNED_STACK" Bundle.steD A s' s'.heap := by rw [hhp]; exact vx_Zq.moved hW0.alike (hU.kept hS.2.1)
  have hN' : vx_Zq Bundle.tN "SUPPRESSED_SENTINEL" Bundle.listD A s' s'.heap := by rw [hhp]; exact vx_Zq.moved hW0.alike (hN.kept hS.2.1)
  have h : ∀ w ∈ Bundle.ownAtoms0 own ic cls names, w.before args s' = true := vx_own hat' (vx_isRefq hU'.1) (vx_isRefq hN'.1) hU'.2.word hN'.2.word
  have hown' : s'.vm.findClass own = some m.cls := by rw [hvm]; exact hown
  have hins : (Cond.instantiable cls 6).before args s' = true := h _ (by simp [Bundle.ownAtoms0])
  obtain ⟨vm₁, cX, kX, hfX, hkX, -, -, X₁, st1⟩ := Y.newCold hexec (own := own) (C := cls) (index := ik) (n := 6) hown' hk' hins hini'
    (g := F0 m pc ls rest) rfl (by rw [hb]; exact d0) (Nat.le_refl _) (Nat.le_refl _)
  generalize hT1 : (T.setVm vm₁).pushCell { cls := cX, slots := kX.instanceTypes.map defaultValue, vm := .none } = T1 at X₁ st1
  have hcat : (Value.ref T.heap.size).category = 1 := rfl
  have hcellA : T1.heap[T.heap.size]? = some (freshCell cX kX) := by rw [← hT1]; exact State.heap_pushCell_size _ _
  have d3' : decode c.code (pc + 3) = .ok (.dup, 1) := by rw [hb]; exact d3
  obtain ⟨U, hsteps, hrun, hend, hW, hsame, ce, hce, hO⟩ := X₁.ctorThrow0 hexec htr (own := own) (cls := cls) (names := names) (ic := ic) hown' hcls hnames h (fun x hx => nomatch hx) hfX hkX hcellA (by rw [hhp, hT]; exact Nat.le_refl _)
    (g := { method := m, pc := pc + 4, locals := ls, stack := .ref T.heap.size :: .ref T.heap.size :: rest, locked := none }) rfl hsize rfl rfl (rest := rest) rfl
    (by rw [hb]; exact d4) (by rw [hb]; exact d7) hout hRframes (by simp only [List.map_cons, List.sum_cons, hcat]; omega) hlocks
  obtain ⟨f1, f2⟩ := vx_frame hsame
  rw [hhp] at f1 f2
  have hWs : s.WarmedH U.vm := State.WarmedH.trans hW0 hW
  have hcl : s.vm.findClass cls = some ce.cls := by
    have h9 := hO.cls
    rw [hvm] at h9
    exact h9
  have hall : s.sameButNew ({ U with vm := s.vm } : State) locs mc ms := by
    subst hA
    obtain ⟨e1, e2⟩ := hsame
    rw [State.setFrames_setFrames] at e1
    have h2 : (T.setVm s.vm).sameButNew ({ U with vm := s.vm } : State) [] (0 + 1) (0 + 6) := ⟨e1, e2⟩
    have h3 := X.same.trans h2
    rw [List.append_nil] at h3
    exact h3.mono hc hs
  refine ⟨U, ?_, .threw T.heap.size, hrun, hend, Or.inr ⟨T.heap.size, rfl, cls, ce, locs, hx U hWs.alike f1 (fun q hq => f2 q hq (fun z hz => nomatch hz)), hce, hO.vm, hcl, hWs, hall, hf⟩⟩
  refine st1 _ ?_
  show Steps p.tables e below (T1.setTop { method := m, pc := pc + 3, locals := ls, stack := .ref T.heap.size :: rest, locked := none }) _
  jvm_step X₁.here [X₁.here.top, hexec, d3', Value.category]
  exact hsteps
/-- 'throw new E("text")': new; dup; ldc; invokespecial; athrow -/
theorem vx_throwS {cc : ByteArray} {pc : Nat} (hexec : p.tables.exec = Jvm.exec) (hb : c.code = cc) (hl : l.stackTraces = false) {own cls text : String} {names : List String} {ik is ic mc ms sa : Nat} {A : Nat → Prop}
    (hown : s.vm.findClass own = some m.cls) (hcls : Bundle.fit cls = true) (hnames : ∀ n ∈ names, Bundle.fit n = true)
    (hk : (Cond.classLink own ik cls).before args s = true) (hini : (Cond.initialized cls).before args s = true) (hstr : vk_R own is text sa s) (hat : ∀ w ∈ vx_atS own ic cls names, w.before args s = true)
    (hgood : ∀ w ∈ Cond.classLink own ik cls :: Cond.initialized cls :: vx_atS own ic cls names, vx_ot w = true)
    (hU : vx_Zq Bundle.tN "UNASSIGNED_STACK" Bundle.steD A s s.heap) (hN : vx_Zq Bundle.tN "SUPPRESSED_SENTINEL" Bundle.listD A s s.heap) (hS : va_S A s.heap H locs) (hsize : ls.size = c.maxLocals)
    (d0 : decode cc pc = .ok (.new ik, 3)) (d3 : decode cc (pc + 3) = .ok (.dup, 1)) (d4 : decode cc (pc + 4) = .ok (.ldc is, 2)) (d6 : decode cc (pc + 6) = .ok (.invokespecial ic, 3)) (d9 : decode cc (pc + 9) = .ok (.athrow, 1))
    (hout : ∀ x ∈ c.exceptionTable.toList, covers x (pc + 9) = false)
    (hRframes : names.length + 3 < R.frames) (hRlocals : (rest.map fun v => v.category).sum + (13 * (names.length + 1) + 43) ≤ R.locals) (hRcells : cells + 1 ≤ R.cells) (hRslots : slots + 6 ≤ R.slots) (hlocks : meth.locks = false)
    (hx : ∀ t : State, s.vm.Alike t.vm → H.size ≤ t.heap.size → (∀ q : Nat, q < H.size → t.heap[q]? = H[q]?) → XC cls s t)
    (hf : ∀ z ∈ locs, free z.base) (hc : cells + 1 ≤ mc) (hs : slots + 6 ≤ ms) :
    W p l e R s m args below meth c H locs cells slots (vx_MQ below Qc XC args s mc ms free) (F0 m pc ls rest) := by
  intro T hT X
  have htr : e.platform.stackTraces = false := (show e.platform.stackTraces = l.stackTraces by rw [X.admits.platform]).trans hl
  have Y := vx_rebase X (R' := { frames := R.frames, locals := R.locals, cells := 1, slots := 6 }) (Nat.le_refl _) (Nat.le_refl _) hRcells hRslots
  obtain ⟨s', hA⟩ : ∃ z, z = (T.setVm s.vm).setFrames (.invoking m args :: below) := ⟨_, rfl⟩
  rw [← hA] at Y
  have hvm : s'.vm = s.vm := by rw [hA]; rfl
  have hhp : s'.heap = H := by rw [hA]; exact hT
  have hW0 : s.WarmedH s'.vm := by rw [hvm]; exact State.WarmedH.refl s
  have hat' : ∀ w ∈ vx_atS own ic cls names, w.before args s' = true := fun w hw => vx_ot_at hW0 hvm.symm (hgood w (List.mem_cons_of_mem _ (List.mem_cons_of_mem _ hw))) (hat w hw)
  have hk' : (Cond.classLink own ik cls).before args s' = true := vx_ot_at hW0 hvm.symm (hgood _ List.mem_cons_self) hk
  have hini' : (Cond.initialized cls).before args s' = true := vx_ot_at hW0 hvm.symm (hgood _ (List.mem_cons_of_mem _ List.mem_cons_self)) hini
  have hU' : vx_Zq Bundle.tN "UNASSIGNED_STACK" Bundle.steD A s' s'.heap := by rw [hhp]; exact vx_Zq.moved hW0.alike (hU.kept hS.2.1)
  have hN' : vx_Zq Bundle.tN "SUPPRESSED_SENTINEL" Bundle.listD A s' s'.heap := by rw [hhp]; exact vx_Zq.moved hW0.alike (hN.kept hS.2.1)
  have h : ∀ w ∈ Bundle.ownAtoms own ic cls names, w.before args s' = true := vx_own hat' (vx_isRefq hU'.1) (vx_isRefq hN'.1) hU'.2.word hN'.2.word
  have hown' : s'.vm.findClass own = some m.cls := by rw [hvm]; exact hown
  have hins : (Cond.instantiable cls 6).before args s' = true := h _ (by simp [Bundle.ownAtoms])
  obtain ⟨vm₁, cX, kX, hfX, hkX, -, -, X₁, st1⟩ := Y.newCold hexec (own := own) (C := cls) (index := ik) (n := 6) hown' hk' hins hini'
    (g := F0 m pc ls rest) rfl (by rw [hb]; exact d0) (Nat.le_refl _) (Nat.le_refl _)
  generalize hT1 : (T.setVm vm₁).pushCell { cls := cX, slots := kX.instanceTypes.map defaultValue, vm := .none } = T1 at X₁ st1
  have hcat : (Value.ref T.heap.size).category = 1 := rfl
  have hcellA : T1.heap[T.heap.size]? = some (freshCell cX kX) := by rw [← hT1]; exact State.heap_pushCell_size _ _
  have d3' : decode c.code (pc + 3) = .ok (.dup, 1) := by rw [hb]; exact d3
  have d4' : decode c.code (pc + 4) = .ok (.ldc is, 2) := by rw [hb]; exact d4
  have hstr' : vk_R own is text sa s' := vk_R.warm hW0 hstr
  obtain ⟨U, hsteps, hrun, hend, hW, hsame, ce, hce, hO⟩ := X₁.ctorThrowS hexec htr (own := own) (cls := cls) (names := names) (ic := ic) hown' hcls hnames h (fun x hx => nomatch hx) hfX hkX hcellA (by rw [hhp, hT]; exact Nat.le_refl _) (msg := .ref sa) rfl
    (g := { method := m, pc := pc + 6, locals := ls, stack := .ref sa :: .ref T.heap.size :: .ref T.heap.size :: rest, locked := none }) rfl hsize rfl rfl (rest := rest) rfl
    (by rw [hb]; exact d6) (by rw [hb]; exact d9) hout hRframes (by simp only [List.map_cons, List.sum_cons, hcat]; omega) hlocks
  obtain ⟨f1, f2⟩ := vx_frame hsame
  rw [hhp] at f1 f2
  have hWs : s.WarmedH U.vm := State.WarmedH.trans hW0 hW
  have hcl : s.vm.findClass cls = some ce.cls := by
    have h9 := hO.cls
    rw [hvm] at h9
    exact h9
  have hall : s.sameButNew ({ U with vm := s.vm } : State) locs mc ms := by
    subst hA
    obtain ⟨e1, e2⟩ := hsame
    rw [State.setFrames_setFrames] at e1
    have h2 : (T.setVm s.vm).sameButNew ({ U with vm := s.vm } : State) [] (0 + 1) (0 + 6) := ⟨e1, e2⟩
    have h3 := X.same.trans h2
    rw [List.append_nil] at h3
    exact h3.mono hc hs
  refine ⟨U, ?_, .threw T.heap.size, hrun, hend, Or.inr ⟨T.heap.size, rfl, cls, ce, locs, hx U hWs.alike f1 (fun q hq => f2 q hq (fun z hz => nomatch hz)), hce, hO.vm, hcl, hWs, hall, hf⟩⟩
  refine st1 _ ?_
  show Steps p.tables e below (T1.setTop { method := m, pc := pc + 3, locals := ls, stack := .ref T.heap.size :: rest, locked := none }) _
  jvm_step X₁.here [X₁.here.top, hexec, d3', Value.category]
  exact X₁.ldcString hexec (own := own) (text := text) (index := is) (a := sa) hown' hstr'.1 hstr'.2
    (g := { method := m, pc := pc + 4, locals := ls, stack := .ref T.heap.size :: .ref T.heap.size :: rest, locked := none }) rfl d4' _ hsteps
/-- 'throw new E("text")', the text by a wide index -/
theorem vx_throwSW {cc : ByteArray} {pc : Nat} (hexec : p.tables.exec = Jvm.exec) (hb : c.code = cc) (hl : l.stackTraces = false) {own cls text : String} {names : List String} {ik is ic mc ms sa : Nat} {A : Nat → Prop}
    (hown : s.vm.findClass own = some m.cls) (hcls : Bundle.fit cls = true) (hnames : ∀ n ∈ names, Bundle.fit n = true)
    (hk : (Cond.classLink own ik cls).before args s = true) (hini : (Cond.initialized cls).before args s = true) (hstr : vk_R own is text sa s) (hat : ∀ w ∈ vx_atS own ic cls names, w.before args s = true)
    (hgood : ∀ w ∈ Cond.classLink own ik cls :: Cond.initialized cls :: vx_atS own ic cls names, vx_ot w = true)
    (hU : vx_Zq Bundle.tN "UNASSIGNED_STACK" Bundle.steD A s s.heap) (hN : vx_Zq Bundle.tN "SUPPRESSED_SENTINEL" Bundle.listD A s s.heap) (hS : va_S A s.heap H locs) (hsize : ls.size = c.maxLocals)
    (d0 : decode cc pc = .ok (.new ik, 3)) (d3 : decode cc (pc + 3) = .ok (.dup, 1)) (d4 : decode cc (pc + 4) = .ok (.ldc_w is, 3)) (d7 : decode cc (pc + 7) = .ok (.invokespecial ic, 3)) (d10 : decode cc (pc + 10) = .ok (.athrow, 1))
    (hout : ∀ x ∈ c.exceptionTable.toList, covers x (pc + 10) = false)
    (hRframes : names.length + 3 < R.frames) (hRlocals : (rest.map fun v => v.category).sum + (13 * (names.length + 1) + 43) ≤ R.locals) (hRcells : cells + 1 ≤ R.cells) (hRslots : slots + 6 ≤ R.slots) (hlocks : meth.locks = false)
    (hx : ∀ t : State, s.vm.Alike t.vm → H.size ≤ t.heap.size → (∀ q : Nat, q < H.size → t.heap[q]? = H[q]?) → XC cls s t)
    (hf : ∀ z ∈ locs, free z.base) (hc : cells + 1 ≤ mc) (hs : slots + 6 ≤ ms) :
    W p l e R s m args below meth c H locs cells slots (vx_MQ below Qc XC args s mc ms free) (F0 m pc ls rest) := by
  intro T hT X
  have htr : e.platform.stackTraces = false := (show e.platform.stackTraces = l.stackTraces by rw [X.admits.platform]).trans hl
  have Y := vx_rebase X (R' := { frames := R.frames, locals := R.locals, cells := 1, slots := 6 }) (Nat.le_refl _) (Nat.le_refl _) hRcells hRslots
  obtain ⟨s', hA⟩ : ∃ z, z = (T.setVm s.vm).setFrames (.invoking m args :: below) := ⟨_, rfl⟩
  rw [← hA] at Y
  have hvm : s'.vm = s.vm := by rw [hA]; rfl
  have hhp : s'.heap = H := by rw [hA]; exact hT
  have hW0 : s.WarmedH s'.vm := by rw [hvm]; exact State.WarmedH.refl s
  have hat' : ∀ w ∈ vx_atS own ic cls names, w.before args s' = true := fun w hw => vx_ot_at hW0 hvm.symm (hgood w (List.mem_cons_of_mem _ (List.mem_cons_of_mem _ hw))) (hat w hw)
  have hk' : (Cond.classLink own ik cls).before args s' = true := vx_ot_at hW0 hvm.symm (hgood _ List.mem_cons_self) hk
  have hini' : (Cond.initialized cls).before args s' = true := vx_ot_at hW0 hvm.symm (hgood _ (List.mem_cons_of_mem _ List.mem_cons_self)) hini
  have hU' : vx_Zq Bundle.tN "UNASSIGNED_STACK" Bundle.steD A s' s'.heap := by rw [hhp]; exact vx_Zq.moved hW0.alike (hU.kept hS.2.1)
  have hN' : vx_Zq Bundle.tN "SUPPRESSED_SENTINEL" Bundle.listD A s' s'.heap := by rw [hhp]; exact vx_Zq.moved hW0.alike (hN.kept hS.2.1)
  have h : ∀ w ∈ Bundle.ownAtoms own ic cls names, w.before args s' = true := vx_own hat' (vx_isRefq hU'.1) (vx_isRefq hN'.1) hU'.2.word hN'.2.word
  have hown' : s'.vm.findClass own = some m.cls := by rw [hvm]; exact hown
  have hins : (Cond.instantiable cls 6).before args s' = true := h _ (by simp [Bundle.ownAtoms])
  obtain ⟨vm₁, cX, kX, hfX, hkX, -, -, X₁, st1⟩ := Y.newCold hexec (own := own) (C := cls) (index := ik) (n := 6) hown' hk' hins hini'
    (g := F0 m pc ls rest) rfl (by rw [hb]; exact d0) (Nat.le_refl _) (Nat.le_refl _)
  generalize hT1 : (T.setVm vm₁).pushCell { cls := cX, slots := kX.instanceTypes.map defaultValue, vm := .none } = T1 at X₁ st1
  have hcat : (Value.ref T.heap.size).category = 1 := rfl
  have hcellA : T1.heap[T.heap.size]? = some (freshCell cX kX) := by rw [← hT1]; exact State.heap_pushCell_size _ _
  have d3' : decode c.code (pc + 3) = .ok (.dup, 1) := by rw [hb]; exact d3
  have d4' : decode c.code (pc + 4) = .ok (.ldc_w is, 3) := by rw [hb]; exact d4
  have hstr' : vk_R own is text sa s' := vk_R.warm hW0 hstr
  obtain ⟨U, hsteps, hrun, hend, hW, hsame, ce, hce, hO⟩ := X₁.ctorThrowS hexec htr (own := own) (cls := cls) (names := names) (ic := ic) hown' hcls hnames h (fun x hx => nomatch hx) hfX hkX hcellA (by rw [hhp, hT]; exact Nat.le_refl _) (msg := .ref sa) rfl
    (g := { method := m, pc := pc + 7, locals := ls, stack := .ref sa :: .ref T.heap.size :: .ref T.heap.size :: rest, locked := none }) rfl hsize rfl rfl (rest := rest) rfl
    (by rw [hb]; exact d7) (by rw [hb]; exact d10) hout hRframes (by simp only [List.map_cons, List.sum_cons, hcat]; omega) hlocks
  obtain ⟨f1, f2⟩ := vx_frame hsame
  rw [hhp] at f1 f2
  have hWs : s.WarmedH U.vm := State.WarmedH.trans hW0 hW
  have hcl : s.vm.findClass cls = some ce.cls := by
    have h9 := hO.cls
    rw [hvm] at h9
    exact h9
  have hall : s.sameButNew ({ U with vm := s.vm } : State) locs mc ms := by
    subst hA
    obtain ⟨e1, e2⟩ := hsame
    rw [State.setFrames_setFrames] at e1
    have h2 : (T.setVm s.vm).sameButNew ({ U with vm := s.vm } : State) [] (0 + 1) (0 + 6) := ⟨e1, e2⟩
    have h3 := X.same.trans h2
    rw [List.append_nil] at h3
    exact h3.mono hc hs
  refine ⟨U, ?_, .threw T.heap.size, hrun, hend, Or.inr ⟨T.heap.size, rfl, cls, ce, locs, hx U hWs.alike f1 (fun q hq => f2 q hq (fun z hz => nomatch hz)), hce, hO.vm, hcl, hWs, hall, hf⟩⟩
  refine st1 _ ?_
  show Steps p.tables e below (T1.setTop { method := m, pc := pc + 3, locals := ls, stack := .ref T.heap.size :: rest, locked := none }) _
  jvm_step X₁.here [X₁.here.top, hexec, d3', Value.category]
  exact X₁.ldcStringW hexec (own := own) (text := text) (index := is) (a := sa) hown' hstr'.1 hstr'.2
    (g := { method := m, pc := pc + 4, locals := ls, stack := .ref T.heap.size :: .ref T.heap.size :: rest, locked := none }) rfl d4' _ hsteps
end Ends
section Bodies
variable {l : Launch}
theorem vx_ofW {y : MethodName} {ws ws' : List Cond} {rm : Room} {Pc : Array Value → State → Prop} {Qc : Array Value → State → Outcome → State → Prop} {XC : String → State → State → Prop} {mc ms : Nat} {free : Addr → Prop} {cc : ByteArray} {maxL : Nat} {ret : Option FieldType}
    (hy : plainName y.cls = true) (hw : ws = Cond.code y cc maxL ret :: ws')
    (body : ∀ p e s m args below meth c s₁, BodyLoose p l y (headSpec ws rm) cc maxL ret e s m args below meth c s₁ → c.maxLocals = maxL → (∀ x ∈ c.exceptionTable.toList, False) → Pc args s →
      W p l e (headSpec ws rm).room s m args below meth c s.heap [] 0 0 (vx_MQ below Qc XC args s mc ms free) (entryFrame m args maxL)) : vx_Met l y ws rm Pc Qc XC mc ms free := by
  refine MetFree.of_bodyS (code := cc) (maxLocals := maxL) (ret := ret) hy ?_ ?_
  · intro args s m h hn
    obtain ⟨meth, c, h1, h2, h3, h4, h5, h6, -, -⟩ := Cond.code_spec hn (atoms_spec (ws := ws) h _ (by rw [hw]; exact List.mem_cons_self))
    exact ⟨meth, c, h1, h2, h3, h4, h5, h6⟩
  · intro p e s m args below meth c s₁ B hml hP _
    have hh0 : s₁.heap = s.heap := by rw [B.state]; rfl
    have ht : ∀ x ∈ c.exceptionTable.toList, False := by
      obtain ⟨meth9, c9, h1, h2, -, -, -, -, h7, -⟩ := Cond.code_spec B.named (atoms_spec (ws := ws) B.pre _ (by rw [hw]; exact List.mem_cons_self))
      cases Option.some.inj (h1.symm.trans B.method)
      cases Option.some.inj (h2.symm.trans (Stand.of_body B).code)
      intro x hx
      rw [Array.isEmpty_iff.mp h7] at hx
      cases hx
    obtain ⟨t, a1, o, b1, b2, b3⟩ := body p e s m args below meth c s₁ B hml ht hP s₁ hh0 (Stand.of_body B)
    exact ⟨t, o, a1, b1, b2, b3⟩
/-- the table of a body with handlers -/
theorem vx_table {p : Program} {x y : MethodName} {S : Spec} {cc bytes : ByteArray} {maxL maxL' : Nat} {ret ret' : Option FieldType} {e : Env} {s s₁ : State} {m : MethodId} {args : Array Value} {below : List Frame} {meth : Method} {c : Code} {hh : List (Nat × Nat × Nat × Nat)}
    (B : BodyLoose p l y S cc maxL ret e s m args below meth c s₁) (h : (Cond.codeWith y bytes maxL' ret' hh).before args s = true) : c.exceptionTable.toList = tableOf hh := by
  obtain ⟨m9, meth9, c9, hn9, h1, h2, -, -, h6, -⟩ := Cond.codeWith_spec h
  cases Option.some.inj (hn9.symm.trans B.named)
  cases Option.some.inj (h1.symm.trans B.method)
  cases Option.some.inj (h2.symm.trans (Stand.of_body B).code)
  rw [← h6, table_eq]
end Bodies
end VXA
/-! ===== END ===== -/
/-! ===== BEGIN a static call of a method with an exception table ===== -/
section VXS
variable {p : Program} {l : Launch} {e : Env} {R : Room} {s : State} {m : MethodId} {args : Array Value} {below : List Frame} {meth : Method} {c : Code} {T : State} {H : Heap} {locs : List Loc} {cells slots : Nat}
abbrev vx_CSW (R : Room) (s : State) (args : Array Value) (own : String) (index : Nat) (y : MethodName) (bytes : ByteArray) (maxL : Nat) (ret : Option FieldType) (hh : List (Nat × Nat × Nat × Nat)) (ws : List Cond) (rm : Room) (mc ms n : Nat) : Prop :=
  (rm.cells = mc ∧ rm.slots = ms ∧ rm.frames + 1 ≤ R.frames ∧ 8 + (maxL + 11) + rm.locals ≤ R.locals ∧ (∀ w ∈ ws, ∀ (a' : Array Value) (U : State), s.WarmedH U.vm → w.before a' U = true) ∧ Cond.codeWith y bytes maxL ret hh ∈ ws) ∧
  (Cond.codeWith y bytes maxL ret hh).before args s = true ∧ (Cond.initialized y.cls).before args s = true ∧ (y.cls ≠ "java/lang/invoke/MethodHandle" ∧ y.cls ≠ "java/lang/invoke/VarHandle") ∧
  (∀ sig, parseMethodDescriptor y.desc = some sig → n = sig.parameters.length) ∧ (Cond.methodLink own index y).before args s = true ∧ (Cond.static y).before args s = true
theorem vx_cwSW {own : String} {index maxL mc ms : Nat} {y : MethodName} {bytes : ByteArray} {ret : Option FieldType} {hh : List (Nat × Nat × Nat × Nat)} {Ts ws ws' : List Cond} {rm : Room} (n : Nat) (ht : ∀ w ∈ Ts, w.before args s = true) (hT : GoodIn Ts (va_wsS own index y ws)) (hw : ws = Cond.codeWith y bytes maxL ret hh :: ws') (hrc : rm.cells = mc) (hrs : rm.slots = ms)
    (hd : y.cls ≠ "java/lang/invoke/MethodHandle" ∧ y.cls ≠ "java/lang/invoke/VarHandle" ∧ (parseMethodDescriptor y.desc).map (fun d => d.parameters.length) = some n) (hR : rm.frames + 1 ≤ R.frames ∧ 8 + (maxL + 11) + rm.locals ≤ R.locals) :
    vx_CSW R s args own index y bytes maxL ret hh ws rm mc ms n := by
  have ok : ∀ w ∈ va_wsS own index y ws, w.before args s = true := fun w h => ht w (hT w h).1
  have hG : GoodIn Ts ws := fun w h => hT w (by unfold va_wsS; exact List.mem_append_right _ h)
  have hc : Cond.codeWith y bytes maxL ret hh ∈ ws := by rw [hw]; exact List.mem_cons_self
  refine ⟨⟨hrc, hrs, hR.1, hR.2, pay_in ht hG, hc⟩, ht _ (hG _ hc).1, ok _ (by simp [va_wsS]), ⟨hd.1, hd.2.1⟩, fun sig h => ?_, ok _ (by simp [va_wsS]), ok _ (by simp [va_wsS])⟩
  have h2 := hd.2.2
  rw [h] at h2
  exact (Option.some.inj h2).symm
theorem vx_callSW (X : Stand p l e R s m args below meth c T locs cells slots) (hexec : p.tables.exec = Jvm.exec) {own : String} {index : Nat} {y : MethodName} {bytes : ByteArray} {maxL : Nat} {ret : Option FieldType} {hh : List (Nat × Nat × Nat × Nat)}
    (hown : s.vm.findClass own = some m.cls) (hlink : (Cond.methodLink own index y).before args s = true) (hstat : (Cond.static y).before args s = true) (hinit : (Cond.initialized y.cls).before args s = true)
    (hcode : (Cond.codeWith y bytes maxL ret hh).before args s = true) (hy : y.cls ≠ "java/lang/invoke/MethodHandle" ∧ y.cls ≠ "java/lang/invoke/VarHandle")
    {W9 : Nat} {Pre : Pt → Array Value → Prop} {Post : Pt → Array Value → Option Value → Pt → Prop} (hK : Back l R p e below s args y 3 W9 Pre Post)
    {g : JFrame} (hg : g.method = m) (hsize : g.locals.size = c.maxLocals) {argsL rest : List Value} (hlen : ∀ sig, parseMethodDescriptor y.desc = some sig → argsL.length = sig.parameters.length)
    (hstack : g.stack = argsL.reverse ++ rest) (hW : 2 * g.monitorRoom + (rest.map fun v => v.category).sum ≤ W9) (hdg : decode c.code g.pc = .ok (.invokestatic index, 3))
    (hpre : ∀ vm₁, s.WarmedH vm₁ → Pre ⟨T.setVm vm₁, locs, cells, slots⟩ argsL.toArray) :
    ∃ (v : Option Value) (vm₁ : Vm) (B : Pt), s.WarmedH vm₁ ∧ Stand p l e R s m args below meth c B.U B.locs B.cells B.slots ∧ Post ⟨T.setVm vm₁, locs, cells, slots⟩ argsL.toArray v B ∧
      ∀ target, Steps p.tables e below (B.U.setTop { g with pc := g.pc + 3, stack := v.toList ++ rest }) target → Steps p.tables e below (T.setTop g) target := by
  obtain ⟨mk, methM, cM, hnamed, hmethM, -, -, -, -, -, -, hsigM⟩ := Cond.codeWith_spec hcode
  have hstatic : methM.isStatic = true := Cond.static_spec hnamed hmethM hstat
  obtain ⟨kP, hkP, -⟩ := className_of_methodNamed hnamed
  have hinitP : kP.init = .initialized := Cond.initialized_spec (findClass_of_methodNamed hnamed) hkP hinit
  obtain ⟨vm₁, X₁, hstep₁⟩ := X.invokestatic hexec hown hlink hnamed hmethM hstatic hkP hinitP hy (g := g) hg (argsL := argsL) (rest := rest) (hlen _ hsigM) hstack hdg
  obtain ⟨v, B, X', hpost, hsteps⟩ := hK m meth c ⟨T.setVm vm₁, locs, cells, slots⟩ { g with stack := rest } (.invokestatic index) mk argsL.toArray X₁ hg hsize hdg hW (X₁.named hnamed) (hpre vm₁ X₁.warmed)
  exact ⟨v, vm₁, B, X₁.warmed, X', hpost, fun target h => hstep₁ _ fun acts => by rw [doInvoke_state]; exact hsteps.trans h⟩
theorem vx_runSW {y : MethodName} {bytes cc : ByteArray} {maxL nL mc ms n index : Nat} {ret : Option FieldType} {hh : List (Nat × Nat × Nat × Nat)} {ws : List Cond} {rm : Room} {Pc : Array Value → State → Prop} {Qc : Array Value → State → Outcome → State → Prop} {free : Addr → Prop} {Ts : List Cond} {own : String} {As rest : List Value} {g : JFrame}
    (S : CallFix p m c cc nL s args Ts own) (hM : Met l y ws rm Pc Qc mc ms free) (cw : vx_CSW R s args own index y bytes maxL ret hh ws rm mc ms n) (hp : PreS s H Pc As)
    (hg : g.method = m) (hn : As.length = n) (hsize : g.locals.size = nL) (hstack : g.stack = As.reverse ++ rest) (hW : 2 * g.monitorRoom + (rest.map fun v => v.category).sum ≤ 8) (hdg : decode cc g.pc = .ok (.invokestatic index, 3)) (hf : cells + mc ≤ R.cells ∧ slots + ms ≤ R.slots) :
    va_Run p l e R s m args below meth c H locs cells slots mc ms g rest (Qc As.toArray) (free) := by
  obtain ⟨⟨hrc, hrs, hfr, hlo, hws, hcw⟩, hcode, hini, hy, hlen, hl, hstt⟩ := cw
  have hK : Back l R p e below s args y 3 8 (PreOf R mc ms Pc) (PostOf Qc mc ms free) := va_backW (hh := hh) (bytes := bytes) (maxL := maxL) (ret := ret) hM hp.1 hrc hrs hfr hlo hws hcw (fun a' U hW => word_at hW (Or.inl (by first | rfl | simp [Cond.onTables, Cond.keeps, Cond.steady])) hini)
  obtain ⟨hx, hb, hml, ho, -⟩ := S
  intro T hT X
  obtain ⟨v, vm₁, ⟨U', l2, c2, s2⟩, hW₁, X', ⟨g', mk, t, L, e1, e2, hq, h1, hL, h2, h3⟩, st⟩ := vx_callSW X hx (hh := hh) (bytes := bytes) (maxL := maxL) (ret := ret) ho hl hstt hini hcode hy hK hg (hsize.trans hml.symm) (argsL := As) (rest := rest) (fun sig h => hn.trans (hlen sig h)) hstack hW (by rw [hb]; exact hdg)
    (fun vm₁ hW₁ => ⟨hf.1, hf.2, hp.2 (T.setVm vm₁) hT hW₁⟩)
  dsimp only [Pt.U, Pt.locs, Pt.cells, Pt.slots] at X' e1 e2 h1 h2 h3 st
  subst h1; subst h2; subst h3
  exact ⟨v, (T.setVm vm₁).calling g' mk As.toArray, t, U', L, hT, X', hL, e1, e2, hq, st⟩
/-- not caught here, past rows that name other classes: it goes on to the caller -/
theorem vx_outP {p : Program} {l : Launch} {e : Env} {R : Room} {s : State} {m : MethodId} {args : Array Value} {below : List Frame} {meth : Method} {c : Code} {H : Heap} {locs : List Loc} {cells slots : Nat} {free : Addr → Prop} {ls : Array Slot} {rest : List Value} {Qc : Array Value → State → Outcome → State → Prop} {XC : String → State → State → Prop}
    {pc : Nat} {own E : String} {ce : Cell} {q : Addr} {mc ms : Nat} (hown : s.vm.findClass own = some m.cls) (hlocks : meth.locks = false)
    (hpass : ∀ z ∈ c.exceptionTable.toList, covers z pc = false ∨ (z.catchType ≠ 0 ∧ ∃ nm : String, (Cond.classLink own z.catchType nm).before args s = true ∧ va_Nc E nm s)) (hcell : H[q]? = some ce) (hv : ce.vm = .none) (hcl : s.vm.findClass E = some ce.cls)
    (hx : ∀ t : State, t.heap = H → s.vm.Alike t.vm → XC E s t) (hf : ∀ z ∈ locs, free z.base) (hc : cells ≤ mc) (hs : slots ≤ ms) :
    vx_W p l e R s m args below meth c H locs cells slots (vx_MQ below Qc XC args s mc ms free) (F0 m pc ls rest) q := by
  intro T hT X
  have hpl : e.platform.magicAccessors = ({} : Platform).magicAccessors := by rw [X.admits.platform]
  obtain ⟨vm', hW', X', st⟩ := X.outThrough hlocks q (g := F0 m pc ls rest) rfl rfl rfl (cell := ce) (by rw [hT]; exact hcell) (by rw [hv]; rfl)
    (by obtain ⟨k9, h9, -⟩ := Vm.findClass_spec hcl; exact ⟨k9, h9⟩) (fun z hz => by
      rcases hpass z hz with h | ⟨hz0, nm, hl1, hn1⟩
      · exact Or.inl h
      · obtain ⟨c6, hc6, hcl6⟩ := Cond.classLink_spec hown hl1 e.platform hpl
        obtain ⟨a8, b8, h1, h2, h3⟩ := hn1
        cases Option.some.inj (h1.symm.trans hcl)
        cases Option.some.inj (h2.symm.trans hc6)
        exact Or.inr ⟨hz0, _, hcl6, h3⟩)
  obtain ⟨g₀, hfr⟩ := X'.frames_eq
  have hcell9 : ((T.setVm vm').setFrames (.throwing q :: below)).heap[q]? = some ce := by
    show T.heap[q]? = some ce
    rw [hT]; exact hcell
  have hend : Ended ((T.setVm vm').setFrames (.throwing q :: below)) below (.threw q) := State.frames_setFrames _ (State.cur_lt_of_frames hfr)
  refine ⟨(T.setVm vm').setFrames (.throwing q :: below), ?_, .threw q, X'.here.running, hend, Or.inr ⟨q, rfl, E, ce, locs, hx _ hT (X'.ends _).1.alike, hcell9, hv, hcl, (X'.ends _).1, (X'.ends _).2.mono hc hs, hf⟩⟩
  rw [X.pushThrowing_eq]
  exact st
/-- a thing of a world lies in the heap -/
theorem vx_lt {D : va_G} {cl : List vw_C} {ws : va_W} {H1 : Heap} (h : va_P D cl ws H1) {k : Nat} {q : Nat × va_E} (hk : ws[k]? = some q) : q.1 < H1.size := (h k q hk).lt
end VXS
/-! ===== END ===== -/
/-! ===== BEGIN methods with a table of their own: called by a name, returning or throwing ===== -/
section VXH
/-! vx_backW, vx_callVX, vx_callSX, vx_callVW, vx_runVW, vx_runVX, vx_runSX, vx_ofWH follow the same proofs as their sisters above (Free/Laws.lean, Shelf42/LK1.lean); vx_outP calls Shelf42/NT130.lean (outThrough). -/
section
variable {l : Launch} {R : Room} {p : Program} {e : Env} {below : List Frame} {s : State} {sargs : Array Value} {y : MethodName} {len W9 : Nat}
theorem vx_backW {ws : List Cond} {rm : Room} {Pc : Array Value → State → Prop} {Qc : Array Value → State → Outcome → State → Prop} {XC : String → State → State → Prop} {mc ms : Nat} {free : Addr → Prop} {bytes : ByteArray} {maxL : Nat} {ret : Option FieldType} {hh : List (Nat × Nat × Nat × Nat)}
    (hM : vx_Met l y ws rm Pc Qc XC mc ms free) (hblind : FrameBlind Pc) (hrc : rm.cells = mc) (hrs : rm.slots = ms)
    (hframes : rm.frames + 1 ≤ R.frames) (hlocals : W9 + (maxL + 11) + rm.locals ≤ R.locals)
    (hws : ∀ w ∈ ws, ∀ a' U, s.WarmedH U.vm → w.before a' U = true) (hcode : Cond.codeWith y bytes maxL ret hh ∈ ws) (hinit : ∀ a' U, s.WarmedH U.vm → (Cond.initialized y.cls).before a' U = true) :
    vx_Back l R p e below s sargs y len W9 (PreOf R mc ms Pc) (PostOf Qc mc ms free) (vx_Post XC mc ms free) := by
  intro m meth c A g ig mk a X hg hsize hdg hW hn hp
  have h1 : (headSpec ws rm).pre.before a A.U = true := atoms_intro fun w hw => hws w hw _ _ X.warmed
  have h2 : (Cond.codeWith y bytes maxL ret hh).before a A.U = true := hws _ hcode _ _ X.warmed
  have h3 : (Cond.initialized y.cls).before a A.U = true := hinit _ _ X.warmed
  have h4 : A.cells + (headSpec ws rm).room.cells ≤ R.cells := by rw [show (headSpec ws rm).room.cells = mc from hrc]; exact hp.1
  have h5 : A.slots + (headSpec ws rm).room.slots ≤ R.slots := by rw [show (headSpec ws rm).room.slots = ms from hrs]; exact hp.2.1
  have hPc : Pc a (A.U.calling g mk a) := hblind _ _ _ _ hp.2.2
  obtain ⟨U, Ls, c0, s0⟩ := A
  dsimp only [Pt.U, Pt.locs, Pt.cells, Pt.slots] at h1 h2 h3 h4 h5 X hn hPc ⊢
  obtain ⟨m9, methY, cY, hn9, hmY, hcY, -, hlY, -⟩ := Cond.codeWith_spec h2
  cases Option.some.inj (hn9.symm.trans hn)
  obtain ⟨kY, hkY, -⟩ := className_of_methodNamed hn
  have hinitY : kY.init = .initialized := Cond.initialized_spec (findClass_of_methodNamed hn) hkY h3
  have h : At U g.method c below := by rw [hg]; exact X.here
  have hlocals9 : W9 + (maxL + 11) + (headSpec ws rm).room.locals ≤ R.locals := hlocals
  have happ : (headSpec ws rm).appliesLoose y e.platform (U.calling g mk a) = true :=
    Spec.appliesLoose_calling (g := g) h hdg hn hkY hinitY
      (X.room_calling (g := g) (R' := (headSpec ws rm).room) hsize hmY hcY hframes (by rw [hlY]; omega) h4 h5) h1
  obtain ⟨mid, hmid⟩ := h.above
  have hfr : (U.setTop g).frames = (.java g :: mid) ++ below := by rw [State.frames_setTop' g h.top, hmid]; rfl
  obtain ⟨o, s₂, hsteps, -, hend, hq⟩ := Steps.callFree hM p X.admits X.cas X.clock (acts := []) hfr happ hPc trivial
  have hq' : vx_Q Qc XC mc ms free a (U.calling g mk a) o s₂ := hq
  rw [State.frames_setTop' g h.top] at hend
  obtain ⟨g₀, hg0⟩ := Option.isSome_iff_exists.mp h.top
  obtain ⟨r, hr⟩ := State.topJava?_eq_some.mp hg0
  have hr' : (({ U with heap := s₂.heap, slotsUsed := s₂.slotsUsed } : State).setVm s₂.vm).frames = .java g₀ :: r := hr
  rcases hq' with ⟨hqc, L, hfe, hL⟩ | ⟨q, rfl, E, ce, L, hx, hce, hcv, hcl, hW₂, hsm, hL⟩
  · obtain ⟨⟨v, rfl⟩, hW₂, e2, q2, q3, q4, q5, q6⟩ := id hfe
    have e3 : s₂ = ({ (U.calling g mk a).setFrames s₂.frames with heap := s₂.heap, slotsUsed := s₂.slotsUsed } : State).setVm s₂.vm := by
      have : s₂ = ({ s₂ with vm := (U.calling g mk a).vm } : State).setVm s₂.vm := rfl
      rw [e2] at this
      exact this
    obtain ⟨c₂, i₂, len₂, hc₂, hd₂, hf₂⟩ := hend
    have hW' : U.WarmedH s₂.vm := hW₂
    have hcc : c₂ = c := by
      have h1 : s₂.code? g.method = U.code? g.method := by
        rw [State.code?_eq, State.code?_eq, hW'.alike.method?]
      exact Option.some.inj (hc₂.symm.trans (h1.trans h.code))
    subst hcc
    have hlen : len₂ = len := by rw [hdg] at hd₂; cases hd₂; rfl
    subst hlen
    have hs₂ : s₂ = (({ U with heap := s₂.heap, slotsUsed := s₂.slotsUsed } : State).setVm s₂.vm).setTop { g with pc := g.pc + len₂, stack := v.toList ++ g.stack } := by
      refine e3.trans ?_
      rw [hf₂, State.calling_eq h.top, State.setFrames_setFrames, State.setTop_of_frames _ hr', hr]
      rfl
    have hsame : U.sameButNew ({ U with heap := s₂.heap, slotsUsed := s₂.slotsUsed } : State) L mc ms := by
      refine ⟨?_, q2, q3, q4, q5, q6⟩
      obtain ⟨t, ht, -⟩ := State.frames_cons hr
      show ({ U with heap := s₂.heap, slotsUsed := s₂.slotsUsed } : State) = { U.setFrames U.frames with heap := s₂.heap, slotsUsed := s₂.slotsUsed }
      rw [State.setFrames_self ht]
    subst hg
    refine Or.inl ⟨v, ⟨(({ U with heap := s₂.heap, slotsUsed := s₂.slotsUsed } : State).setVm s₂.vm), Ls ++ L, c0 + mc, s0 + ms⟩,
      ⟨X.admits, X.cas, X.clock, X.frames, X.room, X.hears, X.method, X.code, (X.here.setHeapUsed s₂.heap s₂.slotsUsed).setVm hW'.alike, X.tail, State.WarmedH.trans X.warmed hW', X.limits, X.bytes, X.same.trans (hsame.setVm s.vm)⟩,
      ⟨g, mk, s₂, L, rfl, rfl, hqc, rfl, hL, rfl, rfl⟩, ?_⟩
    show Steps p.tables e below _ ((({ U with heap := s₂.heap, slotsUsed := s₂.slotsUsed } : State).setVm s₂.vm).setTop { g with pc := g.pc + len₂, stack := v.toList ++ g.stack })
    rw [← hs₂]
    exact hsteps
  · obtain ⟨e2, q2, q3, q4, q5, q6⟩ := id hsm
    have e3 : s₂ = ({ (U.calling g mk a).setFrames s₂.frames with heap := s₂.heap, slotsUsed := s₂.slotsUsed } : State).setVm s₂.vm := by
      have : s₂ = ({ s₂ with vm := (U.calling g mk a).vm } : State).setVm s₂.vm := rfl
      rw [e2] at this
      exact this
    have hf₂ : s₂.frames = .throwing q :: .java g :: U.frames.tail := hend
    have hW' : U.WarmedH s₂.vm := hW₂
    have hs₂ : s₂ = ((({ U with heap := s₂.heap, slotsUsed := s₂.slotsUsed } : State).setVm s₂.vm).setTop g).pushFrame (.throwing q) := by
      refine e3.trans ?_
      rw [hf₂, State.calling_eq h.top, State.setFrames_setFrames, State.pushFrame, State.frames_setTop _ hr', State.setTop_of_frames _ hr', State.setFrames_setFrames, hr]
      rfl
    have hsame : U.sameButNew ({ U with heap := s₂.heap, slotsUsed := s₂.slotsUsed } : State) L mc ms := by
      refine ⟨?_, q2, q3, q4, q5, q6⟩
      obtain ⟨t, ht, -⟩ := State.frames_cons hr
      show ({ U with heap := s₂.heap, slotsUsed := s₂.slotsUsed } : State) = { U.setFrames U.frames with heap := s₂.heap, slotsUsed := s₂.slotsUsed }
      rw [State.setFrames_self ht]
    subst hg
    refine Or.inr ⟨q, ⟨(({ U with heap := s₂.heap, slotsUsed := s₂.slotsUsed } : State).setVm s₂.vm), Ls ++ L, c0 + mc, s0 + ms⟩,
      ⟨X.admits, X.cas, X.clock, X.frames, X.room, X.hears, X.method, X.code, (X.here.setHeapUsed s₂.heap s₂.slotsUsed).setVm hW'.alike, X.tail, State.WarmedH.trans X.warmed hW', X.limits, X.bytes, X.same.trans (hsame.setVm s.vm)⟩,
      ⟨g, mk, s₂, L, E, ce, rfl, rfl, hx, hce, hcv, hcl, rfl, hL, rfl, rfl⟩, ?_⟩
    show Steps p.tables e below _ (((({ U with heap := s₂.heap, slotsUsed := s₂.slotsUsed } : State).setVm s₂.vm).setTop g).pushFrame (.throwing q))
    rw [← hs₂]
    exact hsteps
end
variable {p : Program} {l : Launch} {e : Env} {R : Room} {s : State} {m : MethodId} {args : Array Value} {below : List Frame} {meth : Method} {c : Code} {T : State} {H : Heap} {locs : List Loc} {cells slots : Nat}
theorem vx_callVX (X : Stand p l e R s m args below meth c T locs cells slots) (hexec : p.tables.exec = Jvm.exec) {own C : String} {index : Nat} {y : MethodName} {bytes : ByteArray} {maxL : Nat} {ret : Option FieldType} {hh : List (Nat × Nat × Nat × Nat)}
    (hown : s.vm.findClass own = some m.cls) (hlink : (Cond.methodLink own index y).before args s = true) (hinst : (Cond.instanceMethod y).before args s = true) (hsel : (Cond.selects C y y).before args s = true)
    (hcode : (Cond.codeWith y bytes maxL ret hh).before args s = true) (hy : y.cls ≠ "java/lang/invoke/MethodHandle" ∧ y.cls ≠ "java/lang/invoke/VarHandle")
    {W9 : Nat} {Pre : Pt → Array Value → Prop} {Post : Pt → Array Value → Option Value → Pt → Prop} {PostX : Pt → Array Value → Addr → Pt → Prop} (hK : vx_Back l R p e below s args y 3 W9 Pre Post PostX)
    {b : Addr} {cellB : Cell} (hcell : T.heap[b]? = some cellB) (hobj : cellB.vm.isStatics = false) (hcls : s.vm.findClass C = some cellB.cls)
    {g : JFrame} (hg : g.method = m) (hsize : g.locals.size = c.maxLocals) {argsL rest : List Value} (hlen : ∀ sig, parseMethodDescriptor y.desc = some sig → argsL.length = sig.parameters.length)
    (hstack : g.stack = argsL.reverse ++ .ref b :: rest) (hW : 2 * g.monitorRoom + (rest.map fun v => v.category).sum ≤ W9) (hdg : decode c.code g.pc = .ok (.invokevirtual index, 3))
    (hpre : ∀ vm₁, s.WarmedH vm₁ → Pre ⟨T.setVm vm₁, locs, cells, slots⟩ (Value.ref b :: argsL).toArray) :
    (∃ (v : Option Value) (vm₁ : Vm) (B : Pt), s.WarmedH vm₁ ∧ Stand p l e R s m args below meth c B.U B.locs B.cells B.slots ∧ Post ⟨T.setVm vm₁, locs, cells, slots⟩ (Value.ref b :: argsL).toArray v B ∧
      ∀ target, Steps p.tables e below (B.U.setTop { g with pc := g.pc + 3, stack := v.toList ++ rest }) target → Steps p.tables e below (T.setTop g) target) ∨
    (∃ (q : Addr) (vm₁ : Vm) (B : Pt), s.WarmedH vm₁ ∧ Stand p l e R s m args below meth c B.U B.locs B.cells B.slots ∧ PostX ⟨T.setVm vm₁, locs, cells, slots⟩ (Value.ref b :: argsL).toArray q B ∧
      Steps p.tables e below (T.setTop g) ((B.U.setTop { g with stack := rest }).pushFrame (.throwing q))) := by
  obtain ⟨mk, methM, hnamed, hmethM, hstM, habM⟩ := Cond.instanceMethod_spec hinst
  obtain ⟨m8, methM', cM, hn8, hmethM', -, -, -, -, -, -, hsigM⟩ := Cond.codeWith_spec hcode
  cases Option.some.inj (hn8.symm.trans hnamed)
  cases hmethM.symm.trans hmethM'
  obtain ⟨c2, r2, m2, q1, q2, q3, q4, kP, hkP, hkPi⟩ := Cond.selects_spec hsel
  cases hcls.symm.trans q1
  cases (State.methodFound?_of_named hnamed hy).symm.trans q2
  cases hnamed.symm.trans q3
  have hselP : selectMethod e.platform s.vm cellB.cls mk = .method mk := by rw [Launch.admits_selectMethod X.admits]; exact q4
  obtain ⟨vm₁, X₁, hstep₁⟩ := X.invokevirtual hexec hown hlink hnamed hmethM hstM hkP hkPi hy (a := b) (cell := cellB) hcell
    (fun z h => by rw [h] at hobj; cases hobj) hselP hmethM habM hkP hkPi (g := g) hg (argsL := argsL) (rest := rest) (hlen _ hsigM) hstack hdg
  rcases hK m meth c ⟨T.setVm vm₁, locs, cells, slots⟩ { g with stack := rest } (.invokevirtual index) mk (Value.ref b :: argsL).toArray X₁ hg hsize hdg hW (X₁.named hnamed) (hpre vm₁ X₁.warmed) with ⟨v, B, X', hpost, hsteps⟩ | ⟨q, B, X', hpost, hsteps⟩
  · exact Or.inl ⟨v, vm₁, B, X₁.warmed, X', hpost, fun target h => hstep₁ _ fun acts => by rw [doInvoke_state]; exact hsteps.trans h⟩
  · exact Or.inr ⟨q, vm₁, B, X₁.warmed, X', hpost, hstep₁ _ fun acts => by rw [doInvoke_state]; exact hsteps⟩
theorem vx_callSX (X : Stand p l e R s m args below meth c T locs cells slots) (hexec : p.tables.exec = Jvm.exec) {own : String} {index : Nat} {y : MethodName} {bytes : ByteArray} {maxL : Nat} {ret : Option FieldType} {hh : List (Nat × Nat × Nat × Nat)}
    (hown : s.vm.findClass own = some m.cls) (hlink : (Cond.methodLink own index y).before args s = true) (hstat : (Cond.static y).before args s = true) (hinit : (Cond.initialized y.cls).before args s = true)
    (hcode : (Cond.codeWith y bytes maxL ret hh).before args s = true) (hy : y.cls ≠ "java/lang/invoke/MethodHandle" ∧ y.cls ≠ "java/lang/invoke/VarHandle")
    {W9 : Nat} {Pre : Pt → Array Value → Prop} {Post : Pt → Array Value → Option Value → Pt → Prop} {PostX : Pt → Array Value → Addr → Pt → Prop} (hK : vx_Back l R p e below s args y 3 W9 Pre Post PostX)
    {g : JFrame} (hg : g.method = m) (hsize : g.locals.size = c.maxLocals) {argsL rest : List Value} (hlen : ∀ sig, parseMethodDescriptor y.desc = some sig → argsL.length = sig.parameters.length)
    (hstack : g.stack = argsL.reverse ++ rest) (hW : 2 * g.monitorRoom + (rest.map fun v => v.category).sum ≤ W9) (hdg : decode c.code g.pc = .ok (.invokestatic index, 3))
    (hpre : ∀ vm₁, s.WarmedH vm₁ → Pre ⟨T.setVm vm₁, locs, cells, slots⟩ argsL.toArray) :
    (∃ (v : Option Value) (vm₁ : Vm) (B : Pt), s.WarmedH vm₁ ∧ Stand p l e R s m args below meth c B.U B.locs B.cells B.slots ∧ Post ⟨T.setVm vm₁, locs, cells, slots⟩ argsL.toArray v B ∧
      ∀ target, Steps p.tables e below (B.U.setTop { g with pc := g.pc + 3, stack := v.toList ++ rest }) target → Steps p.tables e below (T.setTop g) target) ∨
    (∃ (q : Addr) (vm₁ : Vm) (B : Pt), s.WarmedH vm₁ ∧ Stand p l e R s m args below meth c B.U B.locs B.cells B.slots ∧ PostX ⟨T.setVm vm₁, locs, cells, slots⟩ argsL.toArray q B ∧
      Steps p.tables e below (T.setTop g) ((B.U.setTop { g with stack := rest }).pushFrame (.throwing q))) := by
  obtain ⟨mk, methM, cM, hnamed, hmethM, -, -, -, -, -, -, hsigM⟩ := Cond.codeWith_spec hcode
  have hstatic : methM.isStatic = true := Cond.static_spec hnamed hmethM hstat
  obtain ⟨kP, hkP, -⟩ := className_of_methodNamed hnamed
  have hinitP : kP.init = .initialized := Cond.initialized_spec (findClass_of_methodNamed hnamed) hkP hinit
  obtain ⟨vm₁, X₁, hstep₁⟩ := X.invokestatic hexec hown hlink hnamed hmethM hstatic hkP hinitP hy (g := g) hg (argsL := argsL) (rest := rest) (hlen _ hsigM) hstack hdg
  rcases hK m meth c ⟨T.setVm vm₁, locs, cells, slots⟩ { g with stack := rest } (.invokestatic index) mk argsL.toArray X₁ hg hsize hdg hW (X₁.named hnamed) (hpre vm₁ X₁.warmed) with ⟨v, B, X', hpost, hsteps⟩ | ⟨q, B, X', hpost, hsteps⟩
  · exact Or.inl ⟨v, vm₁, B, X₁.warmed, X', hpost, fun target h => hstep₁ _ fun acts => by rw [doInvoke_state]; exact hsteps.trans h⟩
  · exact Or.inr ⟨q, vm₁, B, X₁.warmed, X', hpost, hstep₁ _ fun acts => by rw [doInvoke_state]; exact hsteps⟩
theorem vx_callVW (X : Stand p l e R s m args below meth c T locs cells slots) (hexec : p.tables.exec = Jvm.exec) {own C : String} {index : Nat} {y : MethodName} {bytes : ByteArray} {maxL : Nat} {ret : Option FieldType} {hh : List (Nat × Nat × Nat × Nat)}
    (hown : s.vm.findClass own = some m.cls) (hlink : (Cond.methodLink own index y).before args s = true) (hinst : (Cond.instanceMethod y).before args s = true) (hsel : (Cond.selects C y y).before args s = true)
    (hcode : (Cond.codeWith y bytes maxL ret hh).before args s = true) (hy : y.cls ≠ "java/lang/invoke/MethodHandle" ∧ y.cls ≠ "java/lang/invoke/VarHandle")
    {W9 : Nat} {Pre : Pt → Array Value → Prop} {Post : Pt → Array Value → Option Value → Pt → Prop} (hK : Back l R p e below s args y 3 W9 Pre Post)
    {b : Addr} {cellB : Cell} (hcell : T.heap[b]? = some cellB) (hobj : cellB.vm.isStatics = false) (hcls : s.vm.findClass C = some cellB.cls)
    {g : JFrame} (hg : g.method = m) (hsize : g.locals.size = c.maxLocals) {argsL rest : List Value} (hlen : ∀ sig, parseMethodDescriptor y.desc = some sig → argsL.length = sig.parameters.length)
    (hstack : g.stack = argsL.reverse ++ .ref b :: rest) (hW : 2 * g.monitorRoom + (rest.map fun v => v.category).sum ≤ W9) (hdg : decode c.code g.pc = .ok (.invokevirtual index, 3))
    (hpre : ∀ vm₁, s.WarmedH vm₁ → Pre ⟨T.setVm vm₁, locs, cells, slots⟩ (Value.ref b :: argsL).toArray) :
    ∃ (v : Option Value) (vm₁ : Vm) (B : Pt), s.WarmedH vm₁ ∧ Stand p l e R s m args below meth c B.U B.locs B.cells B.slots ∧ Post ⟨T.setVm vm₁, locs, cells, slots⟩ (Value.ref b :: argsL).toArray v B ∧
      ∀ target, Steps p.tables e below (B.U.setTop { g with pc := g.pc + 3, stack := v.toList ++ rest }) target → Steps p.tables e below (T.setTop g) target := by
  obtain ⟨mk, methM, hnamed, hmethM, hstM, habM⟩ := Cond.instanceMethod_spec hinst
  obtain ⟨m8, methM', cM, hn8, hmethM', -, -, -, -, -, -, hsigM⟩ := Cond.codeWith_spec hcode
  cases Option.some.inj (hn8.symm.trans hnamed)
  cases hmethM.symm.trans hmethM'
  obtain ⟨c2, r2, m2, q1, q2, q3, q4, kP, hkP, hkPi⟩ := Cond.selects_spec hsel
  cases hcls.symm.trans q1
  cases (State.methodFound?_of_named hnamed hy).symm.trans q2
  cases hnamed.symm.trans q3
  have hselP : selectMethod e.platform s.vm cellB.cls mk = .method mk := by rw [Launch.admits_selectMethod X.admits]; exact q4
  obtain ⟨vm₁, X₁, hstep₁⟩ := X.invokevirtual hexec hown hlink hnamed hmethM hstM hkP hkPi hy (a := b) (cell := cellB) hcell
    (fun z h => by rw [h] at hobj; cases hobj) hselP hmethM habM hkP hkPi (g := g) hg (argsL := argsL) (rest := rest) (hlen _ hsigM) hstack hdg
  obtain ⟨v, B, X', hpost, hsteps⟩ := hK m meth c ⟨T.setVm vm₁, locs, cells, slots⟩ { g with stack := rest } (.invokevirtual index) mk (Value.ref b :: argsL).toArray X₁ hg hsize hdg hW (X₁.named hnamed) (hpre vm₁ X₁.warmed)
  exact ⟨v, vm₁, B, X₁.warmed, X', hpost, fun target h => hstep₁ _ fun acts => by rw [doInvoke_state]; exact hsteps.trans h⟩
abbrev vx_CVW (R : Room) (s : State) (args : Array Value) (own C : String) (index : Nat) (y : MethodName) (bytes : ByteArray) (maxL : Nat) (ret : Option FieldType) (hh : List (Nat × Nat × Nat × Nat)) (ws : List Cond) (rm : Room) (mc ms n : Nat) : Prop :=
  (rm.cells = mc ∧ rm.slots = ms ∧ rm.frames + 1 ≤ R.frames ∧ 8 + (maxL + 11) + rm.locals ≤ R.locals ∧ (∀ w ∈ ws, ∀ (a' : Array Value) (U : State), s.WarmedH U.vm → w.before a' U = true) ∧ Cond.codeWith y bytes maxL ret hh ∈ ws) ∧
  (Cond.codeWith y bytes maxL ret hh).before args s = true ∧ (Cond.initialized y.cls).before args s = true ∧ (y.cls ≠ "java/lang/invoke/MethodHandle" ∧ y.cls ≠ "java/lang/invoke/VarHandle") ∧
  (∀ sig, parseMethodDescriptor y.desc = some sig → n = sig.parameters.length) ∧ (Cond.methodLink own index y).before args s = true ∧ (Cond.instanceMethod y).before args s = true ∧ (Cond.selects C y y).before args s = true
theorem vx_cwVW {own C : String} {index maxL mc ms : Nat} {y : MethodName} {bytes : ByteArray} {ret : Option FieldType} {hh : List (Nat × Nat × Nat × Nat)} {Ts ws ws' : List Cond} {rm : Room} (n : Nat) (ht : ∀ w ∈ Ts, w.before args s = true) (hT : GoodIn Ts (wsV own index C y ws)) (hw : ws = Cond.codeWith y bytes maxL ret hh :: ws') (hrc : rm.cells = mc) (hrs : rm.slots = ms)
    (hd : y.cls = C ∧ y.cls ≠ "java/lang/invoke/MethodHandle" ∧ y.cls ≠ "java/lang/invoke/VarHandle" ∧ (parseMethodDescriptor y.desc).map (fun d => d.parameters.length) = some n) (hR : rm.frames + 1 ≤ R.frames ∧ 8 + (maxL + 11) + rm.locals ≤ R.locals) :
    vx_CVW R s args own C index y bytes maxL ret hh ws rm mc ms n := by
  obtain ⟨hC, hd⟩ := hd
  subst hC
  have ok : ∀ w ∈ wsV own index y.cls y ws, w.before args s = true := fun w h => ht w (hT w h).1
  have hG : GoodIn Ts ws := fun w h => hT w (by unfold wsV; exact List.mem_append_right _ h)
  have hc : Cond.codeWith y bytes maxL ret hh ∈ ws := by rw [hw]; exact List.mem_cons_self
  refine ⟨⟨hrc, hrs, hR.1, hR.2, pay_in ht hG, hc⟩, ht _ (hG _ hc).1, ok _ (by simp [wsV]), ⟨hd.1, hd.2.1⟩, fun sig h => ?_, ok _ (by simp [wsV]), ok _ (by simp [wsV]), ok _ (by simp [wsV])⟩
  have h2 := hd.2.2
  rw [h] at h2
  exact (Option.some.inj h2).symm
theorem vx_runVW {y : MethodName} {bytes cc : ByteArray} {maxL nL mc ms n index : Nat} {ret : Option FieldType} {hh : List (Nat × Nat × Nat × Nat)} {ws : List Cond} {rm : Room} {Pc : Array Value → State → Prop} {Qc : Array Value → State → Outcome → State → Prop} {free : Addr → Prop} {Ts : List Cond} {own C : String} {b : Addr} {As rest : List Value} {g : JFrame}
    (S : CallFix p m c cc nL s args Ts own) (hM : Met l y ws rm Pc Qc mc ms free) (cw : vx_CVW R s args own C index y bytes maxL ret hh ws rm mc ms n) (hp : PreV s H C b Pc As)
    (hg : g.method = m) (hn : As.length = n) (hsize : g.locals.size = nL) (hstack : g.stack = As.reverse ++ .ref b :: rest) (hW : 2 * g.monitorRoom + (rest.map fun v => v.category).sum ≤ 8) (hdg : decode cc g.pc = .ok (.invokevirtual index, 3)) (hf : cells + mc ≤ R.cells ∧ slots + ms ≤ R.slots) :
    va_Run p l e R s m args below meth c H locs cells slots mc ms g rest (Qc (Value.ref b :: As).toArray) free := by
  obtain ⟨⟨hrc, hrs, hfr, hlo, hws, hcw⟩, hcode, hini, hy, hlen, hl, hin, hse⟩ := cw
  have hK : Back l R p e below s args y 3 8 (PreOf R mc ms Pc) (PostOf Qc mc ms free) := va_backW (hh := hh) (bytes := bytes) (maxL := maxL) (ret := ret) hM hp.1 hrc hrs hfr hlo hws hcw (fun a' U hW => word_at hW (Or.inl (by first | rfl | simp [Cond.onTables, Cond.keeps, Cond.steady])) hini)
  obtain ⟨hx, hb, hml, ho, -⟩ := S
  obtain ⟨-, ⟨cellB, hcB, hoB, hclB⟩, hPc⟩ := hp
  intro T hT X
  obtain ⟨v, vm₁, ⟨U', l2, c2, s2⟩, hW₁, X', ⟨g', mk, t, L, e1, e2, hq, h1, hL, h2, h3⟩, st⟩ := vx_callVW X hx (C := C) (hh := hh) (bytes := bytes) (maxL := maxL) (ret := ret) ho hl hin hse hcode hy hK (by rw [hT]; exact hcB) hoB hclB hg (hsize.trans hml.symm) (argsL := As) (rest := rest) (fun sig h => hn.trans (hlen sig h)) hstack hW (by rw [hb]; exact hdg)
    (fun vm₁ hW₁ => ⟨hf.1, hf.2, hPc (T.setVm vm₁) hT hW₁⟩)
  dsimp only [Pt.U, Pt.locs, Pt.cells, Pt.slots] at X' e1 e2 h1 h2 h3 st
  subst h1; subst h2; subst h3
  exact ⟨v, (T.setVm vm₁).calling g' mk (Value.ref b :: As).toArray, t, U', L, hT, X', hL, e1, e2, hq, st⟩
section
variable {y : MethodName} {bytes cc : ByteArray} {maxL nL mc ms n index : Nat} {ret : Option FieldType} {ws : List Cond} {rm : Room} {Pc : Array Value → State → Prop} {Qc : Array Value → State → Outcome → State → Prop} {XC : String → State → State → Prop} {free : Addr → Prop} {Ts : List Cond} {own C : String} {b : Addr} {As rest : List Value} {g : JFrame}
theorem vx_runVX {hh : List (Nat × Nat × Nat × Nat)} (S : CallFix p m c cc nL s args Ts own) (hM : vx_Met l y ws rm Pc Qc XC mc ms free) (cw : vx_CVW R s args own C index y bytes maxL ret hh ws rm mc ms n) (hp : PreV s H C b Pc As)
    (hg : g.method = m) (hn : As.length = n) (hsize : g.locals.size = nL) (hstack : g.stack = As.reverse ++ .ref b :: rest) (hW : 2 * g.monitorRoom + (rest.map fun v => v.category).sum ≤ 8) (hdg : decode cc g.pc = .ok (.invokevirtual index, 3)) (hf : cells + mc ≤ R.cells ∧ slots + ms ≤ R.slots) :
    vx_Run p l e R s m args below meth c H locs cells slots mc ms g rest (Qc (Value.ref b :: As).toArray) XC free := by
  obtain ⟨⟨hrc, hrs, hfr, hlo, hws, hcw⟩, hcode, hini, hy, hlen, hl, hin, hse⟩ := cw
  have hK : vx_Back l R p e below s args y 3 8 (PreOf R mc ms Pc) (PostOf Qc mc ms free) (vx_Post XC mc ms free) := vx_backW (hh := hh) (bytes := bytes) (maxL := maxL) (ret := ret) hM hp.1 hrc hrs hfr hlo hws hcw (fun a' U hW => word_at hW (Or.inl (by first | rfl | simp [Cond.onTables, Cond.keeps, Cond.steady])) hini)
  obtain ⟨hx, hb, hml, ho, -⟩ := S
  obtain ⟨-, ⟨cellB, hcB, hoB, hclB⟩, hPc⟩ := hp
  intro T hT X
  rcases vx_callVX X hx (C := C) (hh := hh) (bytes := bytes) (maxL := maxL) (ret := ret) ho hl hin hse hcode hy hK (by rw [hT]; exact hcB) hoB hclB hg (hsize.trans hml.symm) (argsL := As) (rest := rest) (fun sig h => hn.trans (hlen sig h)) hstack hW (by rw [hb]; exact hdg)
    (fun vm₁ hW₁ => ⟨hf.1, hf.2, hPc (T.setVm vm₁) hT hW₁⟩) with ⟨v, vm₁, ⟨U', l2, c2, s2⟩, hW₁, X', ⟨g', mk, t, L, e1, e2, hq, h1, hL, h2, h3⟩, st⟩ | ⟨q, vm₁, ⟨U', l2, c2, s2⟩, hW₁, X', ⟨g', mk, t, L, E, ce, e1, e2, hq, hce, hcv, hcl, h1, hL, h2, h3⟩, st⟩
  · dsimp only [Pt.U, Pt.locs, Pt.cells, Pt.slots] at X' e1 e2 h1 h2 h3 st
    subst h1; subst h2; subst h3
    exact Or.inl ⟨v, (T.setVm vm₁).calling g' mk (Value.ref b :: As).toArray, t, U', L, hT, X', hL, e1, e2, hq, st⟩
  · dsimp only [Pt.U, Pt.locs, Pt.cells, Pt.slots] at X' e1 e2 h1 h2 h3 st hcl
    subst h1; subst h2; subst h3
    exact Or.inr ⟨q, (T.setVm vm₁).calling g' mk (Value.ref b :: As).toArray, t, U', L, E, ce, hT, X', hL, e1, e2, hq, hce, hcv, vx_cls hW₁ hcl, st⟩
theorem vx_runSX {hh : List (Nat × Nat × Nat × Nat)} (S : CallFix p m c cc nL s args Ts own) (hM : vx_Met l y ws rm Pc Qc XC mc ms free) (cw : vx_CSW R s args own index y bytes maxL ret hh ws rm mc ms n) (hp : PreS s H Pc As)
    (hg : g.method = m) (hn : As.length = n) (hsize : g.locals.size = nL) (hstack : g.stack = As.reverse ++ rest) (hW : 2 * g.monitorRoom + (rest.map fun v => v.category).sum ≤ 8) (hdg : decode cc g.pc = .ok (.invokestatic index, 3)) (hf : cells + mc ≤ R.cells ∧ slots + ms ≤ R.slots) :
    vx_Run p l e R s m args below meth c H locs cells slots mc ms g rest (Qc As.toArray) XC free := by
  obtain ⟨⟨hrc, hrs, hfr, hlo, hws, hcw⟩, hcode, hini, hy, hlen, hl, hstt⟩ := cw
  have hK : vx_Back l R p e below s args y 3 8 (PreOf R mc ms Pc) (PostOf Qc mc ms free) (vx_Post XC mc ms free) := vx_backW (hh := hh) (bytes := bytes) (maxL := maxL) (ret := ret) hM hp.1 hrc hrs hfr hlo hws hcw (fun a' U hW => word_at hW (Or.inl (by first | rfl | simp [Cond.onTables, Cond.keeps, Cond.steady])) hini)
  obtain ⟨hx, hb, hml, ho, -⟩ := S
  intro T hT X
  rcases vx_callSX X hx (hh := hh) (bytes := bytes) (maxL := maxL) (ret := ret) ho hl hstt hini hcode hy hK hg (hsize.trans hml.symm) (argsL := As) (rest := rest) (fun sig h => hn.trans (hlen sig h)) hstack hW (by rw [hb]; exact hdg)
    (fun vm₁ hW₁ => ⟨hf.1, hf.2, hp.2 (T.setVm vm₁) hT hW₁⟩) with ⟨v, vm₁, ⟨U', l2, c2, s2⟩, hW₁, X', ⟨g', mk, t, L, e1, e2, hq, h1, hL, h2, h3⟩, st⟩ | ⟨q, vm₁, ⟨U', l2, c2, s2⟩, hW₁, X', ⟨g', mk, t, L, E, ce, e1, e2, hq, hce, hcv, hcl, h1, hL, h2, h3⟩, st⟩
  · dsimp only [Pt.U, Pt.locs, Pt.cells, Pt.slots] at X' e1 e2 h1 h2 h3 st
    subst h1; subst h2; subst h3
    exact Or.inl ⟨v, (T.setVm vm₁).calling g' mk As.toArray, t, U', L, hT, X', hL, e1, e2, hq, st⟩
  · dsimp only [Pt.U, Pt.locs, Pt.cells, Pt.slots] at X' e1 e2 h1 h2 h3 st hcl
    subst h1; subst h2; subst h3
    exact Or.inr ⟨q, (T.setVm vm₁).calling g' mk As.toArray, t, U', L, E, ce, hT, X', hL, e1, e2, hq, hce, hcv, vx_cls hW₁ hcl, st⟩
end
end VXH
theorem vx_ofWH {l : Launch} {y : MethodName} {ws ws' : List Cond} {rm : Room} {Pc : Array Value → State → Prop} {Qc : Array Value → State → Outcome → State → Prop} {XC : String → State → State → Prop} {mc ms : Nat} {free : Addr → Prop} {cc : ByteArray} {maxL : Nat} {ret : Option FieldType} {hh : List (Nat × Nat × Nat × Nat)}
    (hy : plainName y.cls = true) (hw : ws = Cond.codeWith y cc maxL ret hh :: ws')
    (body : ∀ p e s m args below meth c s₁, BodyLoose p l y (headSpec ws rm) cc maxL ret e s m args below meth c s₁ → c.maxLocals = maxL → Pc args s →
      W p l e (headSpec ws rm).room s m args below meth c s.heap [] 0 0 (vx_MQ below Qc XC args s mc ms free) (entryFrame m args maxL)) : vx_Met l y ws rm Pc Qc XC mc ms free := by
  refine MetFree.of_bodyS (code := cc) (maxLocals := maxL) (ret := ret) hy ?_ ?_
  · intro args s m h hn
    obtain ⟨m9, meth, c, hn9, h1, h2, h3, h4, -, h5, h6, -⟩ := Cond.codeWith_spec (atoms_spec (ws := ws) h _ (by rw [hw]; exact List.mem_cons_self))
    cases hn.symm.trans hn9
    exact ⟨meth, c, h1, h2, h3, h4, h5, h6⟩
  · intro p e s m args below meth c s₁ B hml hP _
    have hh0 : s₁.heap = s.heap := by rw [B.state]; rfl
    obtain ⟨t, a1, o, b1, b2, b3⟩ := body p e s m args below meth c s₁ B hml hP s₁ hh0 (Stand.of_body B)
    exact ⟨t, o, a1, b1, b2, b3⟩
/-! ===== END ===== -/
end
section
section
variable {p : Program} {l : Launch} {e : Env} {R : Room} {s : State} {m : MethodId} {args : Array Value} {below : List Frame} {meth : Method} {c : Code} {D : va_G} {dA ad : Nat → Nat} {L : List Nat} {A : Nat → Prop} {nL cells slots : Nat} {Q : State → Prop} {hp : Nat → KE} {own : String} {cc : ByteArray} {ret : Option FieldType} {tb : List (Nat × Instr × Nat)}

theorem g_ifeq (hC : CX p s m args meth c own cc nL ret tb D dA ad L A) {pc nx tgt : Nat} {off : Int} {x : Int32} {lv : List (Nat × Value)} {st : List Value} (hf : fd tb pc = some (.ifCond .eq off, nx)) (ht : (pc : Int) + off = (tgt : Int))
    (kt : x = 0 → G p l e R s m args below meth c D dA ad L A nL cells slots Q hp tgt lv st) (kf : ¬ x = 0 → G p l e R s m args below meth c D dA ad L A nL cells slots Q hp nx lv st) : G p l e R s m args below meth c D dA ad L A nL cells slots Q hp pc lv (.int x :: st) := by
  obtain ⟨⟨hx, hb, -, -, -⟩, -, -, htb, -⟩ := hC
  obtain ⟨n, hd, hnx, hn⟩ := fd_ok htb hf
  obtain rfl : n = 3 := hn.resolve_left (by simp [ilen])
  subst hnx
  exact fun H locs ls hP hS hl => lv_if_eq hx hb hd ht (fun h => kt h H locs ls hP hS hl) (fun h => kf h H locs ls hP hS hl)
theorem g_ifne (hC : CX p s m args meth c own cc nL ret tb D dA ad L A) {pc nx tgt : Nat} {off : Int} {x : Int32} {lv : List (Nat × Value)} {st : List Value} (hf : fd tb pc = some (.ifCond .ne off, nx)) (ht : (pc : Int) + off = (tgt : Int))
    (kt : ¬ x = 0 → G p l e R s m args below meth c D dA ad L A nL cells slots Q hp tgt lv st) (kf : x = 0 → G p l e R s m args below meth c D dA ad L A nL cells slots Q hp nx lv st) : G p l e R s m args below meth c D dA ad L A nL cells slots Q hp pc lv (.int x :: st) := by
  obtain ⟨⟨hx, hb, -, -, -⟩, -, -, htb, -⟩ := hC
  obtain ⟨n, hd, hnx, hn⟩ := fd_ok htb hf
  obtain rfl : n = 3 := hn.resolve_left (by simp [ilen])
  subst hnx
  exact fun H locs ls hP hS hl => lv_if_ne hx hb hd ht (fun h => kt h H locs ls hP hS hl) (fun h => kf h H locs ls hP hS hl)
theorem g_iflt (hC : CX p s m args meth c own cc nL ret tb D dA ad L A) {pc nx tgt : Nat} {off : Int} {x : Int32} {lv : List (Nat × Value)} {st : List Value} (hf : fd tb pc = some (.ifCond .lt off, nx)) (ht : (pc : Int) + off = (tgt : Int))
    (kt : x < 0 → G p l e R s m args below meth c D dA ad L A nL cells slots Q hp tgt lv st) (kf : ¬ x < 0 → G p l e R s m args below meth c D dA ad L A nL cells slots Q hp nx lv st) : G p l e R s m args below meth c D dA ad L A nL cells slots Q hp pc lv (.int x :: st) := by
  obtain ⟨⟨hx, hb, -, -, -⟩, -, -, htb, -⟩ := hC
  obtain ⟨n, hd, hnx, hn⟩ := fd_ok htb hf
  obtain rfl : n = 3 := hn.resolve_left (by simp [ilen])
  subst hnx
  exact fun H locs ls hP hS hl => lv_if_lt hx hb hd ht (fun h => kt h H locs ls hP hS hl) (fun h => kf h H locs ls hP hS hl)
theorem g_ifge (hC : CX p s m args meth c own cc nL ret tb D dA ad L A) {pc nx tgt : Nat} {off : Int} {x : Int32} {lv : List (Nat × Value)} {st : List Value} (hf : fd tb pc = some (.ifCond .ge off, nx)) (ht : (pc : Int) + off = (tgt : Int))
    (kt : 0 ≤ x → G p l e R s m args below meth c D dA ad L A nL cells slots Q hp tgt lv st) (kf : ¬ 0 ≤ x → G p l e R s m args below meth c D dA ad L A nL cells slots Q hp nx lv st) : G p l e R s m args below meth c D dA ad L A nL cells slots Q hp pc lv (.int x :: st) := by
  obtain ⟨⟨hx, hb, -, -, -⟩, -, -, htb, -⟩ := hC
  obtain ⟨n, hd, hnx, hn⟩ := fd_ok htb hf
  obtain rfl : n = 3 := hn.resolve_left (by simp [ilen])
  subst hnx
  exact fun H locs ls hP hS hl => lv_if_ge hx hb hd ht (fun h => kt h H locs ls hP hS hl) (fun h => kf h H locs ls hP hS hl)
theorem g_ifgt (hC : CX p s m args meth c own cc nL ret tb D dA ad L A) {pc nx tgt : Nat} {off : Int} {x : Int32} {lv : List (Nat × Value)} {st : List Value} (hf : fd tb pc = some (.ifCond .gt off, nx)) (ht : (pc : Int) + off = (tgt : Int))
    (kt : 0 < x → G p l e R s m args below meth c D dA ad L A nL cells slots Q hp tgt lv st) (kf : ¬ 0 < x → G p l e R s m args below meth c D dA ad L A nL cells slots Q hp nx lv st) : G p l e R s m args below meth c D dA ad L A nL cells slots Q hp pc lv (.int x :: st) := by
  obtain ⟨⟨hx, hb, -, -, -⟩, -, -, htb, -⟩ := hC
  obtain ⟨n, hd, hnx, hn⟩ := fd_ok htb hf
  obtain rfl : n = 3 := hn.resolve_left (by simp [ilen])
  subst hnx
  exact fun H locs ls hP hS hl => lv_if_gt hx hb hd ht (fun h => kt h H locs ls hP hS hl) (fun h => kf h H locs ls hP hS hl)
theorem g_ifle (hC : CX p s m args meth c own cc nL ret tb D dA ad L A) {pc nx tgt : Nat} {off : Int} {x : Int32} {lv : List (Nat × Value)} {st : List Value} (hf : fd tb pc = some (.ifCond .le off, nx)) (ht : (pc : Int) + off = (tgt : Int))
    (kt : x ≤ 0 → G p l e R s m args below meth c D dA ad L A nL cells slots Q hp tgt lv st) (kf : ¬ x ≤ 0 → G p l e R s m args below meth c D dA ad L A nL cells slots Q hp nx lv st) : G p l e R s m args below meth c D dA ad L A nL cells slots Q hp pc lv (.int x :: st) := by
  obtain ⟨⟨hx, hb, -, -, -⟩, -, -, htb, -⟩ := hC
  obtain ⟨n, hd, hnx, hn⟩ := fd_ok htb hf
  obtain rfl : n = 3 := hn.resolve_left (by simp [ilen])
  subst hnx
  exact fun H locs ls hP hS hl => lv_if_le hx hb hd ht (fun h => kt h H locs ls hP hS hl) (fun h => kf h H locs ls hP hS hl)
theorem g_iceq (hC : CX p s m args meth c own cc nL ret tb D dA ad L A) {pc nx tgt : Nat} {off : Int} {x y : Int32} {lv : List (Nat × Value)} {st : List Value} (hf : fd tb pc = some (.if_icmp .eq off, nx)) (ht : (pc : Int) + off = (tgt : Int))
    (kt : x = y → G p l e R s m args below meth c D dA ad L A nL cells slots Q hp tgt lv st) (kf : ¬ x = y → G p l e R s m args below meth c D dA ad L A nL cells slots Q hp nx lv st) : G p l e R s m args below meth c D dA ad L A nL cells slots Q hp pc lv (.int y :: .int x :: st) := by
  obtain ⟨⟨hx, hb, -, -, -⟩, -, -, htb, -⟩ := hC
  obtain ⟨n, hd, hnx, hn⟩ := fd_ok htb hf
  obtain rfl : n = 3 := hn.resolve_left (by simp [ilen])
  subst hnx
  exact fun H locs ls hP hS hl => lv_icmp_eq hx hb hd ht (fun h => kt h H locs ls hP hS hl) (fun h => kf h H locs ls hP hS hl)
theorem g_icne (hC : CX p s m args meth c own cc nL ret tb D dA ad L A) {pc nx tgt : Nat} {off : Int} {x y : Int32} {lv : List (Nat × Value)} {st : List Value} (hf : fd tb pc = some (.if_icmp .ne off, nx)) (ht : (pc : Int) + off = (tgt : Int))
    (kt : ¬ x = y → G p l e R s m args below meth c D dA ad L A nL cells slots Q hp tgt lv st) (kf : x = y → G p l e R s m args below meth c D dA ad L A nL cells slots Q hp nx lv st) : G p l e R s m args below meth c D dA ad L A nL cells slots Q hp pc lv (.int y :: .int x :: st) := by
  obtain ⟨⟨hx, hb, -, -, -⟩, -, -, htb, -⟩ := hC
  obtain ⟨n, hd, hnx, hn⟩ := fd_ok htb hf
  obtain rfl : n = 3 := hn.resolve_left (by simp [ilen])
  subst hnx
  exact fun H locs ls hP hS hl => lv_icmp_ne hx hb hd ht (fun h => kt h H locs ls hP hS hl) (fun h => kf h H locs ls hP hS hl)
theorem g_iclt (hC : CX p s m args meth c own cc nL ret tb D dA ad L A) {pc nx tgt : Nat} {off : Int} {x y : Int32} {lv : List (Nat × Value)} {st : List Value} (hf : fd tb pc = some (.if_icmp .lt off, nx)) (ht : (pc : Int) + off = (tgt : Int))
    (kt : x < y → G p l e R s m args below meth c D dA ad L A nL cells slots Q hp tgt lv st) (kf : ¬ x < y → G p l e R s m args below meth c D dA ad L A nL cells slots Q hp nx lv st) : G p l e R s m args below meth c D dA ad L A nL cells slots Q hp pc lv (.int y :: .int x :: st) := by
  obtain ⟨⟨hx, hb, -, -, -⟩, -, -, htb, -⟩ := hC
  obtain ⟨n, hd, hnx, hn⟩ := fd_ok htb hf
  obtain rfl : n = 3 := hn.resolve_left (by simp [ilen])
  subst hnx
  exact fun H locs ls hP hS hl => lv_icmp_lt hx hb hd ht (fun h => kt h H locs ls hP hS hl) (fun h => kf h H locs ls hP hS hl)
theorem g_icge (hC : CX p s m args meth c own cc nL ret tb D dA ad L A) {pc nx tgt : Nat} {off : Int} {x y : Int32} {lv : List (Nat × Value)} {st : List Value} (hf : fd tb pc = some (.if_icmp .ge off, nx)) (ht : (pc : Int) + off = (tgt : Int))
    (kt : y ≤ x → G p l e R s m args below meth c D dA ad L A nL cells slots Q hp tgt lv st) (kf : ¬ y ≤ x → G p l e R s m args below meth c D dA ad L A nL cells slots Q hp nx lv st) : G p l e R s m args below meth c D dA ad L A nL cells slots Q hp pc lv (.int y :: .int x :: st) := by
  obtain ⟨⟨hx, hb, -, -, -⟩, -, -, htb, -⟩ := hC
  obtain ⟨n, hd, hnx, hn⟩ := fd_ok htb hf
  obtain rfl : n = 3 := hn.resolve_left (by simp [ilen])
  subst hnx
  exact fun H locs ls hP hS hl => lv_icmp_ge hx hb hd ht (fun h => kt h H locs ls hP hS hl) (fun h => kf h H locs ls hP hS hl)
theorem g_icgt (hC : CX p s m args meth c own cc nL ret tb D dA ad L A) {pc nx tgt : Nat} {off : Int} {x y : Int32} {lv : List (Nat × Value)} {st : List Value} (hf : fd tb pc = some (.if_icmp .gt off, nx)) (ht : (pc : Int) + off = (tgt : Int))
    (kt : y < x → G p l e R s m args below meth c D dA ad L A nL cells slots Q hp tgt lv st) (kf : ¬ y < x → G p l e R s m args below meth c D dA ad L A nL cells slots Q hp nx lv st) : G p l e R s m args below meth c D dA ad L A nL cells slots Q hp pc lv (.int y :: .int x :: st) := by
  obtain ⟨⟨hx, hb, -, -, -⟩, -, -, htb, -⟩ := hC
  obtain ⟨n, hd, hnx, hn⟩ := fd_ok htb hf
  obtain rfl : n = 3 := hn.resolve_left (by simp [ilen])
  subst hnx
  exact fun H locs ls hP hS hl => lv_icmp_gt hx hb hd ht (fun h => kt h H locs ls hP hS hl) (fun h => kf h H locs ls hP hS hl)
theorem g_icle (hC : CX p s m args meth c own cc nL ret tb D dA ad L A) {pc nx tgt : Nat} {off : Int} {x y : Int32} {lv : List (Nat × Value)} {st : List Value} (hf : fd tb pc = some (.if_icmp .le off, nx)) (ht : (pc : Int) + off = (tgt : Int))
    (kt : x ≤ y → G p l e R s m args below meth c D dA ad L A nL cells slots Q hp tgt lv st) (kf : ¬ x ≤ y → G p l e R s m args below meth c D dA ad L A nL cells slots Q hp nx lv st) : G p l e R s m args below meth c D dA ad L A nL cells slots Q hp pc lv (.int y :: .int x :: st) := by
  obtain ⟨⟨hx, hb, -, -, -⟩, -, -, htb, -⟩ := hC
  obtain ⟨n, hd, hnx, hn⟩ := fd_ok htb hf
  obtain rfl : n = 3 := hn.resolve_left (by simp [ilen])
  subst hnx
  exact fun H locs ls hP hS hl => lv_icmp_le hx hb hd ht (fun h => kt h H locs ls hP hS hl) (fun h => kf h H locs ls hP hS hl)
theorem g_cv {pc : Nat} {lv lv' : List (Nat × Value)} {st st' : List Value} (h1 : lv = lv') (h2 : st = st') (k : G p l e R s m args below meth c D dA ad L A nL cells slots Q hp pc lv' st') : G p l e R s m args below meth c D dA ad L A nL cells slots Q hp pc lv st := by rw [h1, h2]; exact k
theorem g_hp {pc : Nat} {hp' : Nat → KE} {lv : List (Nat × Value)} {st : List Value} (h : hp = hp') (k : G p l e R s m args below meth c D dA ad L A nL cells slots Q hp' pc lv st) : G p l e R s m args below meth c D dA ad L A nL cells slots Q hp pc lv st := by rw [h]; exact k
/-- fewer locals, in any order -/
theorem g_lv {pc : Nat} {lv lv' : List (Nat × Value)} {st : List Value} (h : ∀ q ∈ lv', q ∈ lv) (k : G p l e R s m args below meth c D dA ad L A nL cells slots Q hp pc lv' st) : G p l e R s m args below meth c D dA ad L A nL cells slots Q hp pc lv st := by
  intro H locs ls hP hS hl
  refine k H locs ls hP hS ⟨hl.1, hl.2.1, fun q hq => ?_⟩
  obtain ⟨q0, h0, rfl⟩ := List.mem_map.mp hq
  exact hl.2.2 _ (List.mem_map.mpr ⟨q0, h q0 h0, rfl⟩)
theorem g_widen {pc k n : Nat} {lv : List (Nat × Value)} {st : List Value} (h1 : cells ≤ k) (h2 : slots ≤ n) (kk : G p l e R s m args below meth c D dA ad L A nL k n Q hp pc lv st) : G p l e R s m args below meth c D dA ad L A nL cells slots Q hp pc lv st :=
  fun H locs ls hP hS hl => W.widen h1 h2 (kk H locs ls hP hS hl)
def fT (ci : Nat) : u_T := match ci with
  | 0 => TX0
  | 1 => TX1
  | 2 => TX2
  | _ => TX3
def fC (ci : Nat) : String := match ci with
  | 0 => RX0
  | 1 => RX1
  | 2 => RX2
  | _ => RX3
def fN (ci : Nat) : Nat := match ci with
  | 0 => 6
  | 1 => 2
  | 2 => 8
  | _ => 14
def ftY (ci : Nat) : Nat → FieldType := match ci with
  | 0 => tyX0
  | 1 => tyX1
  | 2 => tyX2
  | _ => tyX3
def FLD (own : String) (idx ci j : Nat) : Prop := (kcl[ci]? = some (fC ci, fT ci, fN ci) ∧ j < fN ci ∧ Cond.fieldLink own idx (fC ci) (fT ci j).2.1 (fT ci j).2.2.1 ∈ WW ∧ (fT ci j).1 = fC ci ∧ (∀ w ∈ u_ws (fC ci) (fT ci) (fN ci), w ∈ WW)) ∧
  (∀ k, k < fN ci → parseFieldDescriptor (fT ci k).2.2.1 = some (ftY ci k)) ∧ (∀ a, a < fN ci → ∀ b, b < fN ci → a ≠ b → (fT ci a).2.1 ≠ (fT ci b).2.1)
theorem g_get (hC : CX p s m args meth c own cc nL ret tb D dA ad L A) {pc nx idx ci j k : Nat} {fs : List Value} {v : Value} {lv : List (Nat × Value)} {st : List Value} (hf : fd tb pc = some (.getfield idx, nx)) (hF : FLD own idx ci j) (hk : k ∈ L) (hh : hp k = kO ci fs) (hv : fs[j]? = some v)
    (kk : G p l e R s m args below meth c D dA ad L A nL cells slots Q hp nx lv (v :: st)) : G p l e R s m args below meth c D dA ad L A nL cells slots Q hp pc lv (.ref k :: st) := by
  obtain ⟨⟨hx, hb, hml, ho, hts⟩, -, -, htb, hK, -⟩ := hC
  obtain ⟨n, hd, hnx, hn⟩ := fd_ok htb hf
  obtain rfl : n = 3 := hn.resolve_left (by simp [ilen])
  subst hnx
  obtain ⟨⟨h1, h2, h3, h4, h5⟩, -, -⟩ := hF
  intro H locs ls hP hS hl
  obtain ⟨i, hi⟩ := kw_get (dA := dA) (ad := ad) (hp := hp) hk
  rw [hh] at hi
  exact va_get (D := D) (C := fC ci) (T := fT ci) (N := fN ci) (ref := fC ci) hx hb hts h5 ho hK hP i hi h1 j h2 (hts _ h3) (fun x h => by rw [h4] at h; exact h) (v := em ad v) (by rw [List.getElem?_map, hv]; rfl) hd (kk H locs ls hP hS hl)
theorem g_put (hC : CX p s m args meth c own cc nL ret tb D dA ad L A) {pc nx idx ci j k : Nat} {fs : List Value} {v : Value} {lv : List (Nat × Value)} {st : List Value} (hf : fd tb pc = some (.putfield idx, nx)) (hF : FLD own idx ci j) (hk : k ∈ L) (hh : hp k = kO ci fs) (hj : j < fs.length) (hfin : (fT ci j).2.2.2 = false)
    (hn2 : narrow (ftY ci j) (em ad v) = em ad v) (hfit : fits (ftY ci j) (em ad v) = true)
    (kk : G p l e R s m args below meth c D dA ad L A nL cells slots Q (va_up hp k (kO ci (fs.set j v))) nx lv st) : G p l e R s m args below meth c D dA ad L A nL cells slots Q hp pc lv (v :: .ref k :: st) := by
  obtain ⟨⟨hx, hb, hml, ho, hts⟩, -, -, htb, hK, hj1, hnd, hA, -⟩ := hC
  obtain ⟨n, hd, hnx, hn⟩ := fd_ok htb hf
  obtain rfl : n = 3 := hn.resolve_left (by simp [ilen])
  subst hnx
  obtain ⟨⟨h1, h2, h3, h4, h5⟩, h6, h7⟩ := hF
  intro H locs ls hP hS hl
  obtain ⟨i, hi⟩ := kw_get (dA := dA) (ad := ad) (hp := hp) hk
  have hi0 := hi
  rw [hh] at hi
  refine va_put (D := D) (C := fC ci) (T := fT ci) (N := fN ci) (ref := fC ci) hx hb hts h5 (ftY ci) h6 h7 ho hK hP (kw_D hj1 hnd hA) hS i hi h1 j h2 (hts _ h3) (fun x h => by rw [h4] at h; exact h) hfin (h6 j h2) hn2 hfit (by rw [List.length_map]; exact hj) hd (fun H1 locs1 hP1 _ hS1 => ?_)
  have e1 : ((.inr (ci, (fs.map (em ad)).set j (em ad v))) : va_E) = emE dA ad (kO ci (fs.set j v)) := by
    show _ = (.inr (ci, (fs.set j v).map (em ad)) : va_E)
    rw [List.map_set]
  rw [e1, kw_set hj1 hnd hk hi0] at hP1
  exact kk H1 locs1 ls hP1 hS1 hl
theorem g_putI (hC : CX p s m args meth c own cc nL ret tb D dA ad L A) {pc nx idx ci j k : Nat} {fs : List Value} {x : Int32} {lv : List (Nat × Value)} {st : List Value} (hf : fd tb pc = some (.putfield idx, nx)) (hF : FLD own idx ci j) (hk : k ∈ L) (hh : hp k = kO ci fs) (hj : j < fs.length) (hfin : (fT ci j).2.2.2 = false) (hty : ftY ci j = .int)
    (kk : G p l e R s m args below meth c D dA ad L A nL cells slots Q (va_up hp k (kO ci (fs.set j (.int x)))) nx lv st) : G p l e R s m args below meth c D dA ad L A nL cells slots Q hp pc lv (.int x :: .ref k :: st) :=
  g_put hC hf hF hk hh hj hfin (by rw [hty]; rfl) (by rw [hty]; rfl) kk
theorem g_ild (hC : CX p s m args meth c own cc nL ret tb D dA ad L A) {pc nx k n : Nat} {f : Nat → Int32} {i : Int32} {lv : List (Nat × Value)} {st : List Value} (j : Nat) (hf : fd tb pc = some (.iaload, nx)) (hk : k ∈ L) (hh : hp k = kI n f) (hi : i = nI j) (hj : j < n) (hn : n < 2 ^ 31)
    (kk : G p l e R s m args below meth c D dA ad L A nL cells slots Q hp nx lv (.int (f j) :: st)) : G p l e R s m args below meth c D dA ad L A nL cells slots Q hp pc lv (.int i :: .ref k :: st) := by
  obtain ⟨⟨hx, hb, hml, ho, hts⟩, -, -, htb, hK, -⟩ := hC
  obtain ⟨n9, hd, hnx, hn9⟩ := fd_ok htb hf
  obtain rfl : n9 = 1 := hn9.resolve_left (by simp [ilen])
  subst hnx
  subst hi
  intro H locs ls hP hS hl
  obtain ⟨i, hi⟩ := kw_get (dA := dA) (ad := ad) (hp := hp) hk
  rw [hh] at hi
  refine va_iald hx hb hK hP i 0 hi rfl (vp_in_nI hj hn) hd ?_
  rw [nI_clamp (Nat.lt_trans hj hn)]
  exact kk H locs ls hP hS hl
theorem g_lld (hC : CX p s m args meth c own cc nL ret tb D dA ad L A) {pc nx k n : Nat} {f : Nat → Int64} {i : Int32} {lv : List (Nat × Value)} {st : List Value} (j : Nat) (hf : fd tb pc = some (.laload, nx)) (hk : k ∈ L) (hh : hp k = kJ n f) (hi : i = nI j) (hj : j < n) (hn : n < 2 ^ 31)
    (kk : G p l e R s m args below meth c D dA ad L A nL cells slots Q hp nx lv (.long (f j) :: st)) : G p l e R s m args below meth c D dA ad L A nL cells slots Q hp pc lv (.int i :: .ref k :: st) := by
  obtain ⟨⟨hx, hb, hml, ho, hts⟩, -, -, htb, hK, -⟩ := hC
  obtain ⟨n9, hd, hnx, hn9⟩ := fd_ok htb hf
  obtain rfl : n9 = 1 := hn9.resolve_left (by simp [ilen])
  subst hnx
  subst hi
  intro H locs ls hP hS hl
  obtain ⟨i, hi⟩ := kw_get (dA := dA) (ad := ad) (hp := hp) hk
  rw [hh] at hi
  refine va_lald hx hb hK hP i 1 hi rfl (vp_in_nI hj hn) hd ?_
  rw [nI_clamp (Nat.lt_trans hj hn)]
  exact kk H locs ls hP hS hl
theorem g_ald (hC : CX p s m args meth c own cc nL ret tb D dA ad L A) {pc nx k n t q : Nat} {C : String} {f : Nat → Option Nat} {i : Int32} {lv : List (Nat × Value)} {st : List Value} (j : Nat) (hf : fd tb pc = some (.aaload, nx)) (hk : k ∈ L) (hh : hp k = kQ t n f) (ht : (tysW dA)[t]? = some (dA t, .object C)) (hi : i = nI j) (hj : j < n) (hn : n < 2 ^ 31) (hq : f j = some q)
    (kk : G p l e R s m args below meth c D dA ad L A nL cells slots Q hp nx lv (.ref q :: st)) : G p l e R s m args below meth c D dA ad L A nL cells slots Q hp pc lv (.int i :: .ref k :: st) := by
  obtain ⟨⟨hx, hb, hml, ho, hts⟩, -, -, htb, hK, -⟩ := hC
  obtain ⟨n9, hd, hnx, hn9⟩ := fd_ok htb hf
  obtain rfl : n9 = 1 := hn9.resolve_left (by simp [ilen])
  subst hnx
  subst hi
  intro H locs ls hP hS hl
  obtain ⟨i, hi⟩ := kw_get (dA := dA) (ad := ad) (hp := hp) hk
  rw [hh] at hi
  refine va_aldq hx hb hK hP i t (f := fun j => (f j).map ad) hi ht (vp_in_nI hj hn) hd ?_
  rw [nI_clamp (Nat.lt_trans hj hn)]
  rw [hq]
  exact kk H locs ls hP hS hl
theorem g_ist (hC : CX p s m args meth c own cc nL ret tb D dA ad L A) {pc nx k n : Nat} {f : Nat → Int32} {i x : Int32} {lv : List (Nat × Value)} {st : List Value} (j : Nat) (hf : fd tb pc = some (.iastore, nx)) (hk : k ∈ L) (hh : hp k = kI n f) (hi : i = nI j) (hj : j < n) (hn : n < 2 ^ 31)
    (kk : G p l e R s m args below meth c D dA ad L A nL cells slots Q (va_up hp k (kI n (va_up f j x))) nx lv st) : G p l e R s m args below meth c D dA ad L A nL cells slots Q hp pc lv (.int x :: .int i :: .ref k :: st) := by
  obtain ⟨⟨hx, hb, hml, ho, hts⟩, -, -, htb, hK, hj1, hnd, hA, -⟩ := hC
  obtain ⟨n9, hd, hnx, hn9⟩ := fd_ok htb hf
  obtain rfl : n9 = 1 := hn9.resolve_left (by simp [ilen])
  subst hnx
  subst hi
  intro H locs ls hP hS hl
  obtain ⟨i, hi⟩ := kw_get (dA := dA) (ad := ad) (hp := hp) hk
  have hi0 := hi
  rw [hh] at hi
  refine va_iast hx hb hK hP (kw_D hj1 hnd hA) hS i 0 hi rfl (vp_in_nI hj hn) hd (fun H1 locs1 hP1 _ hS1 => ?_)
  rw [nI_clamp (Nat.lt_trans hj hn)] at hP1
  have e1 : ((.inl (dA 0, n, .inl (upd f j x))) : va_E) = emE dA ad (kI n (va_up f j x)) := rfl
  rw [e1, kw_set hj1 hnd hk hi0] at hP1
  exact kk H1 locs1 ls hP1 hS1 hl
theorem g_lst (hC : CX p s m args meth c own cc nL ret tb D dA ad L A) {pc nx k n : Nat} {f : Nat → Int64} {i : Int32} {x : Int64} {lv : List (Nat × Value)} {st : List Value} (j : Nat) (hf : fd tb pc = some (.lastore, nx)) (hk : k ∈ L) (hh : hp k = kJ n f) (hi : i = nI j) (hj : j < n) (hn : n < 2 ^ 31)
    (kk : G p l e R s m args below meth c D dA ad L A nL cells slots Q (va_up hp k (kJ n (va_up f j x))) nx lv st) : G p l e R s m args below meth c D dA ad L A nL cells slots Q hp pc lv (.long x :: .int i :: .ref k :: st) := by
  obtain ⟨⟨hx, hb, hml, ho, hts⟩, -, -, htb, hK, hj1, hnd, hA, -⟩ := hC
  obtain ⟨n9, hd, hnx, hn9⟩ := fd_ok htb hf
  obtain rfl : n9 = 1 := hn9.resolve_left (by simp [ilen])
  subst hnx
  subst hi
  intro H locs ls hP hS hl
  obtain ⟨i, hi⟩ := kw_get (dA := dA) (ad := ad) (hp := hp) hk
  have hi0 := hi
  rw [hh] at hi
  refine va_last hx hb hK hP (kw_D hj1 hnd hA) hS i 1 hi rfl (vp_in_nI hj hn) hd (fun H1 locs1 hP1 _ hS1 => ?_)
  rw [nI_clamp (Nat.lt_trans hj hn)] at hP1
  have e1 : ((.inl (dA 1, n, .inr (.inl (vp_updL f j x)))) : va_E) = emE dA ad (kJ n (va_up f j x)) := rfl
  rw [e1, kw_set hj1 hnd hk hi0] at hP1
  exact kk H1 locs1 ls hP1 hS1 hl
theorem g_alen (hC : CX p s m args meth c own cc nL ret tb D dA ad L A) {pc nx k t : Nat} {a : vp_A} {ty : FieldType} {lv : List (Nat × Value)} {st : List Value} (hf : fd tb pc = some (.arraylength, nx)) (hk : k ∈ L) (hh : hp k = .inl (t, a)) (ht : (tysW dA)[t]? = some (dA t, ty))
    (kk : G p l e R s m args below meth c D dA ad L A nL cells slots Q hp nx lv (.int (nI a.1) :: st)) : G p l e R s m args below meth c D dA ad L A nL cells slots Q hp pc lv (.ref k :: st) := by
  obtain ⟨⟨hx, hb, hml, ho, hts⟩, -, -, htb, hK, -⟩ := hC
  obtain ⟨n9, hd, hnx, hn9⟩ := fd_ok htb hf
  obtain rfl : n9 = 1 := hn9.resolve_left (by simp [ilen])
  subst hnx
  intro H locs ls hP hS hl
  obtain ⟨i, hi⟩ := kw_get (dA := dA) (ad := ad) (hp := hp) hk
  rw [hh] at hi
  refine va_alen hx hb hK hP i t (x := emQ ad a) hi ht (v := nI a.1) ?_ hd (kk H locs ls hP hS hl)
  obtain ⟨n, f⟩ := a
  rcases f with f | f | f | f | f <;> rfl
/-- idiv, irem by what isn't 0 -/
theorem g_idiv (hC : CX p s m args meth c own cc nL ret tb D dA ad L A) {pc nx : Nat} {x y : Int32} {lv : List (Nat × Value)} {st : List Value} (hf : fd tb pc = some (.idiv, nx)) (hy : ¬ y = 0) (kk : G p l e R s m args below meth c D dA ad L A nL cells slots Q hp nx lv (.int (x / y) :: st)) : G p l e R s m args below meth c D dA ad L A nL cells slots Q hp pc lv (.int y :: .int x :: st) := by
  obtain ⟨⟨hx, hb, -, -, -⟩, -, -, htb, -⟩ := hC
  obtain ⟨n, hd, hnx, hn⟩ := fd_ok htb hf
  obtain rfl : n = 1 := hn.resolve_left (by simp [ilen])
  subst hnx
  exact fun H locs ls hP hS hl => lv_idiv hx hb hd hy (kk H locs ls hP hS hl)
theorem g_irem (hC : CX p s m args meth c own cc nL ret tb D dA ad L A) {pc nx : Nat} {x y : Int32} {lv : List (Nat × Value)} {st : List Value} (hf : fd tb pc = some (.irem, nx)) (hy : ¬ y = 0) (kk : G p l e R s m args below meth c D dA ad L A nL cells slots Q hp nx lv (.int (x - x / y * y) :: st)) : G p l e R s m args below meth c D dA ad L A nL cells slots Q hp pc lv (.int y :: .int x :: st) := by
  obtain ⟨⟨hx, hb, -, -, -⟩, -, -, htb, -⟩ := hC
  obtain ⟨n, hd, hnx, hn⟩ := fd_ok htb hf
  obtain rfl : n = 1 := hn.resolve_left (by simp [ilen])
  subst hnx
  exact fun H locs ls hP hS hl => lv_irem hx hb hd hy (kk H locs ls hP hS hl)
end
end
section
/-! contracts over the world; what a state's tables say beside the good words -/
def isAO (w : Cond) : Bool := match w with
  | .arrayOver (.object _) => true
  | _ => false
def faceW (w : Cond) : Bool := (w.onTables && w.keepsFace) || isAO w
def TW : List Cond := lw_tbl.filter faceW
theorem TW_of {w : Cond} (h : w ∈ lw_tbl) (g : faceW w = true) : w ∈ TW := List.mem_filter.mpr ⟨h, g⟩
def strs : List (Nat × String) := [(154, "nine wires are there"), (54, "no such kind or literal"), (66, "no such set"), (73, "40 additions are there"), (156, "not a set of inputs"), (110, "a line would have more than 40 monomials"), (158, "there is no proof"), (160, "no such line"), (122, "no such monomial"), (134, "the line would have more than 40 monomials"), (145, "the rest has no monomials")]
def nests : List (String × Nat × MethodName) := [(RX2, 17, yX1_init), (RX2, 29, yX0_init), (RX0, 61, yX2_bitOf)]
def NW (A : Nat → Prop) (sa : Nat → Nat) (U : State) (H : Heap) : Prop :=
  (∀ w ∈ TW, w.before #[] U = true) ∧ (∀ q ∈ nests, va_Nw (.methodLinkNest q.1 q.2.1 q.2.2 RX2) U) ∧ (∀ q ∈ strs, vk_R RX2 q.1 q.2 (sa q.1) U) ∧
  vx_Zq Bundle.tN "UNASSIGNED_STACK" Bundle.steD A U H ∧ vx_Zq Bundle.tN "SUPPRESSED_SENTINEL" Bundle.listD A U H
theorem isAO_of {w : Cond} (h : isAO w = true) : ∃ C : String, w = .arrayOver (.object C) := by
  unfold isAO at h
  split at h
  · exact ⟨_, rfl⟩
  · cases h
theorem face_at {args a' : Array Value} {s U : State} {w : Cond} (hW : s.WarmedH U.vm) (hg : faceW w = true) (h : w.before args s = true) : w.before a' U = true := by
  simp only [faceW, Bool.and_eq_true, Bool.or_eq_true] at hg
  rcases hg with ⟨h2, h9⟩ | h9
  · have h1 := Cond.before_shiftedFace (State.Shifted.of_warmed hW) w h9 h
    exact va_tabs h2 (rfl : (s.setVm U.vm).vm = U.vm) h1
  · obtain ⟨C9, rfl⟩ := isAO_of h9
    exact va_AO.use (va_AO.moved hW.alike (va_AO.of h))
theorem face_same {args a' : Array Value} {s U : State} {w : Cond} (hv : s.vm = U.vm) (hg : faceW w = true) (h : w.before args s = true) : w.before a' U = true := by
  simp only [faceW, Bool.and_eq_true, Bool.or_eq_true] at hg
  rcases hg with ⟨h2, h9⟩ | h9
  · exact va_tabs h2 hv h
  · obtain ⟨C9, rfl⟩ := isAO_of h9
    exact va_AO.use (va_AO.moved (by rw [hv]; exact Vm.Alike.refl U.vm) (va_AO.of h))
theorem NW.move {A B : Nat → Prop} {sa : Nat → Nat} {s U : State} {H : Heap} {locs : List Loc} (h : NW A sa s s.heap) (hS : va_S A s.heap H locs) (hW : s.WarmedH U.vm) (hAB : ∀ q, B q → A q) : NW B sa U H := by
  obtain ⟨h1, h2, h3, h4, h5⟩ := h
  refine ⟨fun w hw => face_at hW (List.mem_filter.mp hw).2 (h1 w hw), fun q hq => va_Nw.warmM hW (h2 q hq), fun q hq => vk_R.warm hW (h3 q hq), ?_, ?_⟩
  · exact vx_Zq.narrow (vx_Zq.moved hW.alike (vx_Zq.kept h4 hS.2.1)) hAB
  · exact vx_Zq.narrow (vx_Zq.moved hW.alike (vx_Zq.kept h5 hS.2.1)) hAB
theorem NW.calling {A : Nat → Prop} {sa : Nat → Nat} {U : State} {g : JFrame} {mk : MethodId} {a : Array Value} (h : NW A sa U U.heap) : NW A sa (U.calling g mk a) (U.calling g mk a).heap := by
  obtain ⟨h1, h2, h3, h4, h5⟩ := h
  refine ⟨fun w hw => ?_, fun q hq => va_Nw.same rfl (u := U) rfl (h2 q hq), fun q hq => vk_R.same (u := U) rfl (h3 q hq), vx_Zq.moved (u := U) (Vm.Alike.refl U.vm) h4, vx_Zq.moved (u := U) (Vm.Alike.refl U.vm) h5⟩
  exact face_same (s := U) rfl (List.mem_filter.mp hw).2 (h1 w hw)
def kA (ad : Nat → Nat) (L : List Nat) (sz : Nat) : Nat → Prop := fun q => (∃ k ∈ L, ad k = q) ∨ sz ≤ q
def kPc (D : va_G) (dA ad sa : Nat → Nat) (L : List Nat) (av : List Value) (hp : Nat → KE) (sz : Nat) : Array Value → State → Prop :=
  va_Pc (av.map (em ad)) (fun U => U.heap.size = sz ∧ va_P D kcl (kw dA ad L hp) U.heap ∧ va_K D kcl (tysW dA) U ∧ NW (kA ad L sz) sa U U.heap)
def kR (D : va_G) (dA ad : Nat → Nat) (L : List Nat) (A : Nat → Prop) (post : Option Value → (Nat → KE) → Prop) : Array Value → State → Outcome → State → Prop := fun _ st oc t =>
  (∃ (r : Option Value) (hp' : Nat → KE), oc = .returned (r.map (em ad)) ∧ post r hp' ∧ va_P D kcl (kw dA ad L hp') t.heap) ∧ va_F A st t
def kX (D : va_G) (dA ad : Nat → Nat) (L : List Nat) (A : Nat → Prop) (px : String → (Nat → KE) → Prop) : String → State → State → Prop := fun E st t =>
  (∃ hp' : Nat → KE, px E hp' ∧ va_P D kcl (kw dA ad L hp') t.heap) ∧ va_F A st t
/-- the method returns: post of what it answers and of the world behind it -/
def KM (l : Launch) (y : MethodName) (cc : ByteArray) (maxL : Nat) (ret : Option FieldType) (rm : Room) (D : va_G) (dA ad sa : Nat → Nat) (L : List Nat) (av : List Value) (hp : Nat → KE) (post : Option Value → (Nat → KE) → Prop) : Prop :=
  ∀ sz : Nat, Met l y (Cond.code y cc maxL ret :: WW) rm (kPc D dA ad sa L av hp sz) (kR D dA ad L (kA ad L sz) post) rm.cells rm.slots (kA ad L sz)
/-- the method returns, or throws: px of the class of what it throws and of the world behind it -/
def KX (l : Launch) (y : MethodName) (cc : ByteArray) (maxL : Nat) (ret : Option FieldType) (rm : Room) (D : va_G) (dA ad sa : Nat → Nat) (L : List Nat) (av : List Value) (hp : Nat → KE) (post : Option Value → (Nat → KE) → Prop) (px : String → (Nat → KE) → Prop) : Prop :=
  ∀ sz : Nat, vx_Met l y (Cond.code y cc maxL ret :: WW) rm (kPc D dA ad sa L av hp sz) (kR D dA ad L (kA ad L sz) post) (kX D dA ad L (kA ad L sz) px) rm.cells rm.slots (kA ad L sz)
theorem kPc_blind (D : va_G) (dA ad sa : Nat → Nat) (L : List Nat) (av : List Value) (hp : Nat → KE) (sz : Nat) : FrameBlind (kPc D dA ad sa L av hp sz) := fun a U g mk q => by
  obtain ⟨q0, q1, qP, qK, qN⟩ := q
  exact ⟨q0, q1, qP, va_K.moved (u := U) (U := U.calling g mk a) (Vm.Alike.refl U.vm) qK, qN.calling⟩
theorem args_emL (ad : Nat → Nat) : ∀ (i : Nat) (vs : List Value), lv_args i (vs.map (em ad)) = emL ad (lv_args i vs)
  | _, [] => rfl
  | i, v :: vs => by
    show (i, em ad v) :: lv_args (if (em ad v).category = 2 then i + 2 else i + 1) (vs.map (em ad)) = (i, em ad v) :: emL ad (lv_args (if v.category = 2 then i + 2 else i + 1) vs)
    rw [em_cat, args_emL]
theorem sl_len (ad : Nat → Nat) (vs : List Value) : (lg_sl (vs.map (em ad))).length = (lg_sl vs).length := by
  induction vs with
  | nil => rfl
  | cons v vs ih =>
    simp only [lg_sl, List.map_cons, List.flatMap_cons, List.length_append] at ih ⊢
    rw [ih, em_cat]
    congr 1
    by_cases h : v.category = 2 <;> simp [h]
def rmK (d mc ms : Nat) : Room := { frames := d, cells := mc, slots := ms, locals := 40 * d }

section
variable {p : Program} {l : Launch} {e : Env} {R : Room} {s : State} {m : MethodId} {args : Array Value} {below : List Frame} {meth : Method} {c : Code} {D : va_G} {dA ad sa : Nat → Nat} {L : List Nat} {A : Nat → Prop} {nL cells slots : Nat} {Q : State → Prop} {hp : Nat → KE} {own : String} {cc : ByteArray} {ret : Option FieldType} {tb : List (Nat × Instr × Nat)}

theorem cx_of {y : MethodName} {maxL sz : Nat} {rm : Room} {av : List Value} {s₁ : State} (htb : tbOK cc tb = true) (hj : kinj ad L) (hn : L.Nodup) (B : BodyLoose p l y (headSpec (Cond.code y cc maxL ret :: WW) rm) cc maxL ret e s m args below meth c s₁) (hml : c.maxLocals = maxL) (hv : kPc D dA ad sa L av hp sz args s) :
    CX p s m args meth c y.cls cc maxL ret tb D dA ad L (kA ad L sz) ∧ NW (kA ad L sz) sa s s.heap ∧ va_P D kcl (kw dA ad L hp) s.heap ∧ args = (av.map (em ad)).toArray ∧ s.heap.size = sz := by
  obtain ⟨h0, hsz, hP, hK, hN⟩ := hv
  have hts := atoms_spec (ws := Cond.code y cc maxL ret :: WW) B.pre
  exact ⟨⟨⟨B.exec, B.bytes, hml, findClass_of_methodNamed B.named, fun w hw => hts w (List.mem_cons_of_mem _ hw)⟩, B.returns, B.notSynchronized, htb, hK, hj, hn, fun k hk => Or.inl ⟨k, hk, rfl⟩, fun q h => Or.inr (by rw [← hsz]; exact h)⟩, hN, hP, h0, hsz⟩
theorem KM.of {y : MethodName} {maxL : Nat} {rm : Room} {av : List Value} {post : Option Value → (Nat → KE) → Prop} (hy : plainName y.cls = true) (htb : tbOK cc tb = true) (hlen : (lg_sl av).length ≤ maxL) (hj : kinj ad L) (hn : L.Nodup)
    (body : ∀ (p : Program) (e : Env) (s : State) (m : MethodId) (args : Array Value) (below : List Frame) (meth : Method) (c : Code) (A : Nat → Prop), CX p s m args meth c y.cls cc maxL ret tb D dA ad L A → NW A sa s s.heap → G p l e rm s m args below meth c D dA ad L A maxL 0 0 (MQ below (kR D dA ad L A post) args s rm.cells rm.slots A) hp 0 (lv_args 0 av) []) :
    KM l y cc maxL ret rm D dA ad sa L av hp post := by
  intro sz
  refine Met.ofW (cc := cc) (maxL := maxL) (ret := ret) hy rfl ?_
  intro p e s m args below meth c s₁ B hml hv
  obtain ⟨hC, hN, hP, h0, hsz⟩ := cx_of htb hj hn B hml hv
  have K := body p e s m args below meth c _ hC hN
  have hl := lv_entry (av.map (em ad)) (n := maxL) (by rw [sl_len]; exact hlen)
  rw [h0, lg_entry_eq]
  rw [h0] at K
  exact K s.heap [] _ hP va_S.rf (by rw [← args_emL]; exact hl)
theorem KX.of {y : MethodName} {maxL : Nat} {rm : Room} {av : List Value} {post : Option Value → (Nat → KE) → Prop} {px : String → (Nat → KE) → Prop} (hy : plainName y.cls = true) (htb : tbOK cc tb = true) (hlen : (lg_sl av).length ≤ maxL) (hj : kinj ad L) (hn : L.Nodup)
    (body : ∀ (p : Program) (e : Env) (s : State) (m : MethodId) (args : Array Value) (below : List Frame) (meth : Method) (c : Code) (A : Nat → Prop), CX p s m args meth c y.cls cc maxL ret tb D dA ad L A → NW A sa s s.heap → (∀ x ∈ c.exceptionTable.toList, False) → G p l e rm s m args below meth c D dA ad L A maxL 0 0 (vx_MQ below (kR D dA ad L A post) (kX D dA ad L A px) args s rm.cells rm.slots A) hp 0 (lv_args 0 av) []) :
    KX l y cc maxL ret rm D dA ad sa L av hp post px := by
  intro sz
  refine vx_ofW (cc := cc) (maxL := maxL) (ret := ret) hy rfl ?_
  intro p e s m args below meth c s₁ B hml hE hv
  obtain ⟨hC, hN, hP, h0, hsz⟩ := cx_of htb hj hn B hml hv
  have K := body p e s m args below meth c _ hC hN hE
  have hl := lv_entry (av.map (em ad)) (n := maxL) (by rw [sl_len]; exact hlen)
  rw [h0, lg_entry_eq]
  rw [h0] at K
  exact K s.heap [] _ hP va_S.rf (by rw [← args_emL]; exact hl)
theorem g_ret (hC : CX p s m args meth c own cc nL ret tb D dA ad L A) {pc nx mc ms : Nat} {lv : List (Nat × Value)} {post : Option Value → (Nat → KE) → Prop} (hf : fd tb pc = some (.return_, nx)) (hrr : ret = none) (hpost : post none hp) (h1 : cells ≤ mc) (h2 : slots ≤ ms) :
    G p l e R s m args below meth c D dA ad L A nL cells slots (MQ below (kR D dA ad L A post) args s mc ms A) hp pc lv [] := by
  obtain ⟨⟨hx, hb, -, -, -⟩, hr, hlk, htb, -⟩ := hC
  obtain ⟨n, hd, hnx, hn⟩ := fd_ok htb hf
  obtain rfl : n = 1 := hn.resolve_left (by simp [ilen])
  intro H locs ls hP hS hl
  exact W.widen h1 h2 (W.vret hx hb (hr.trans hrr) (fun t ht hW => ⟨⟨none, hp, rfl, hpost, by rw [ht]; exact hP⟩, hS.F ht⟩) hS.2.2 hd hlk)
theorem gx_ret (hC : CX p s m args meth c own cc nL ret tb D dA ad L A) {pc nx mc ms : Nat} {lv : List (Nat × Value)} {post : Option Value → (Nat → KE) → Prop} {XC : String → State → State → Prop} (hf : fd tb pc = some (.return_, nx)) (hrr : ret = none) (hpost : post none hp) (h1 : cells ≤ mc) (h2 : slots ≤ ms) :
    G p l e R s m args below meth c D dA ad L A nL cells slots (vx_MQ below (kR D dA ad L A post) XC args s mc ms A) hp pc lv [] :=
  fun H locs ls hP hS hl => vx_ret (g_ret hC hf hrr hpost h1 h2 H locs ls hP hS hl)
theorem g_iret (hC : CX p s m args meth c own cc nL ret tb D dA ad L A) {pc nx mc ms : Nat} {lv : List (Nat × Value)} {post : Option Value → (Nat → KE) → Prop} {v : Int32} (hf : fd tb pc = some (.ireturn, nx)) (hrr : ret = some .int) (hpost : post (some (.int v)) hp) (h1 : cells ≤ mc) (h2 : slots ≤ ms) :
    G p l e R s m args below meth c D dA ad L A nL cells slots (MQ below (kR D dA ad L A post) args s mc ms A) hp pc lv [.int v] := by
  obtain ⟨⟨hx, hb, -, -, -⟩, hr, hlk, htb, -⟩ := hC
  obtain ⟨n, hd, hnx, hn⟩ := fd_ok htb hf
  obtain rfl : n = 1 := hn.resolve_left (by simp [ilen])
  intro H locs ls hP hS hl
  exact W.widen h1 h2 (W.iret hx hb (hr.trans hrr) (fun t ht hW => ⟨⟨(some (.int v)), hp, rfl, hpost, by rw [ht]; exact hP⟩, hS.F ht⟩) hS.2.2 hd hlk)
theorem gx_iret (hC : CX p s m args meth c own cc nL ret tb D dA ad L A) {pc nx mc ms : Nat} {lv : List (Nat × Value)} {post : Option Value → (Nat → KE) → Prop} {XC : String → State → State → Prop} {v : Int32} (hf : fd tb pc = some (.ireturn, nx)) (hrr : ret = some .int) (hpost : post (some (.int v)) hp) (h1 : cells ≤ mc) (h2 : slots ≤ ms) :
    G p l e R s m args below meth c D dA ad L A nL cells slots (vx_MQ below (kR D dA ad L A post) XC args s mc ms A) hp pc lv [.int v] :=
  fun H locs ls hP hS hl => vx_ret (g_iret hC hf hrr hpost h1 h2 H locs ls hP hS hl)
theorem g_lret (hC : CX p s m args meth c own cc nL ret tb D dA ad L A) {pc nx mc ms : Nat} {lv : List (Nat × Value)} {post : Option Value → (Nat → KE) → Prop} {v : Int64} (hf : fd tb pc = some (.lreturn, nx)) (hrr : ret = some .long) (hpost : post (some (.long v)) hp) (h1 : cells ≤ mc) (h2 : slots ≤ ms) :
    G p l e R s m args below meth c D dA ad L A nL cells slots (MQ below (kR D dA ad L A post) args s mc ms A) hp pc lv [.long v] := by
  obtain ⟨⟨hx, hb, -, -, -⟩, hr, hlk, htb, -⟩ := hC
  obtain ⟨n, hd, hnx, hn⟩ := fd_ok htb hf
  obtain rfl : n = 1 := hn.resolve_left (by simp [ilen])
  intro H locs ls hP hS hl
  exact W.widen h1 h2 (W.lret hx hb (hr.trans hrr) (fun t ht hW => ⟨⟨(some (.long v)), hp, rfl, hpost, by rw [ht]; exact hP⟩, hS.F ht⟩) hS.2.2 hd hlk)
theorem gx_lret (hC : CX p s m args meth c own cc nL ret tb D dA ad L A) {pc nx mc ms : Nat} {lv : List (Nat × Value)} {post : Option Value → (Nat → KE) → Prop} {XC : String → State → State → Prop} {v : Int64} (hf : fd tb pc = some (.lreturn, nx)) (hrr : ret = some .long) (hpost : post (some (.long v)) hp) (h1 : cells ≤ mc) (h2 : slots ≤ ms) :
    G p l e R s m args below meth c D dA ad L A nL cells slots (vx_MQ below (kR D dA ad L A post) XC args s mc ms A) hp pc lv [.long v] :=
  fun H locs ls hP hS hl => vx_ret (g_lret hC hf hrr hpost h1 h2 H locs ls hP hS hl)
theorem g_zret (hC : CX p s m args meth c own cc nL ret tb D dA ad L A) {pc nx mc ms : Nat} {lv : List (Nat × Value)} {post : Option Value → (Nat → KE) → Prop} {v : Int32} (hz : narrow .boolean (.int v) = .int v) (hf : fd tb pc = some (.ireturn, nx)) (hrr : ret = some .boolean) (hpost : post (some (.int v)) hp) (h1 : cells ≤ mc) (h2 : slots ≤ ms) :
    G p l e R s m args below meth c D dA ad L A nL cells slots (MQ below (kR D dA ad L A post) args s mc ms A) hp pc lv [.int v] := by
  obtain ⟨⟨hx, hb, -, -, -⟩, hr, hlk, htb, -⟩ := hC
  obtain ⟨n, hd, hnx, hn⟩ := fd_ok htb hf
  obtain rfl : n = 1 := hn.resolve_left (by simp [ilen])
  intro H locs ls hP hS hl
  exact W.widen h1 h2 (W.zret hx hb (hr.trans hrr) hz (fun t ht hW => ⟨⟨(some (.int v)), hp, rfl, hpost, by rw [ht]; exact hP⟩, hS.F ht⟩) hS.2.2 hd hlk)
theorem gx_zret (hC : CX p s m args meth c own cc nL ret tb D dA ad L A) {pc nx mc ms : Nat} {lv : List (Nat × Value)} {post : Option Value → (Nat → KE) → Prop} {XC : String → State → State → Prop} {v : Int32} (hz : narrow .boolean (.int v) = .int v) (hf : fd tb pc = some (.ireturn, nx)) (hrr : ret = some .boolean) (hpost : post (some (.int v)) hp) (h1 : cells ≤ mc) (h2 : slots ≤ ms) :
    G p l e R s m args below meth c D dA ad L A nL cells slots (vx_MQ below (kR D dA ad L A post) XC args s mc ms A) hp pc lv [.int v] :=
  fun H locs ls hP hS hl => vx_ret (g_zret hC hz hf hrr hpost h1 h2 H locs ls hP hS hl)
theorem g_aret (hC : CX p s m args meth c own cc nL ret tb D dA ad L A) {pc nx mc ms : Nat} {lv : List (Nat × Value)} {post : Option Value → (Nat → KE) → Prop} {v : Nat} {C9 : String} (hf : fd tb pc = some (.areturn, nx)) (hrr : ret = some (.object C9)) (hpost : post (some (.ref v)) hp) (h1 : cells ≤ mc) (h2 : slots ≤ ms) :
    G p l e R s m args below meth c D dA ad L A nL cells slots (MQ below (kR D dA ad L A post) args s mc ms A) hp pc lv [.ref v] := by
  obtain ⟨⟨hx, hb, -, -, -⟩, hr, hlk, htb, -⟩ := hC
  obtain ⟨n, hd, hnx, hn⟩ := fd_ok htb hf
  obtain rfl : n = 1 := hn.resolve_left (by simp [ilen])
  intro H locs ls hP hS hl
  exact W.widen h1 h2 (W.aret hx hb (hr.trans hrr) (Or.inl ⟨_, rfl⟩) (Or.inr ⟨_, rfl⟩) (fun t ht hW => ⟨⟨(some (.ref v)), hp, rfl, hpost, by rw [ht]; exact hP⟩, hS.F ht⟩) hS.2.2 hd hlk)
theorem gx_aret (hC : CX p s m args meth c own cc nL ret tb D dA ad L A) {pc nx mc ms : Nat} {lv : List (Nat × Value)} {post : Option Value → (Nat → KE) → Prop} {XC : String → State → State → Prop} {v : Nat} {C9 : String} (hf : fd tb pc = some (.areturn, nx)) (hrr : ret = some (.object C9)) (hpost : post (some (.ref v)) hp) (h1 : cells ≤ mc) (h2 : slots ≤ ms) :
    G p l e R s m args below meth c D dA ad L A nL cells slots (vx_MQ below (kR D dA ad L A post) XC args s mc ms A) hp pc lv [.ref v] :=
  fun H locs ls hP hS hl => vx_ret (g_aret hC hf hrr hpost h1 h2 H locs ls hP hS hl)
end
end
section
def MLK (own : String) (idx : Nat) (y : MethodName) (cc : ByteArray) (maxL : Nat) (ret : Option FieldType) (n : Nat) : Prop :=
  (Cond.methodLink own idx y ∈ WW ∧ Cond.instanceMethod y ∈ WW ∧ Cond.selects y.cls y y ∈ WW ∧ Cond.initialized y.cls ∈ WW ∧ Cond.code y cc maxL ret ∈ WW) ∧ (y.cls = y.cls ∧ y.cls ≠ "java/lang/invoke/MethodHandle" ∧ y.cls ≠ "java/lang/invoke/VarHandle" ∧ (parseMethodDescriptor y.desc).map (fun d => d.parameters.length) = some n)
def MSK (own : String) (idx : Nat) (y : MethodName) (cc : ByteArray) (maxL : Nat) (ret : Option FieldType) (n : Nat) : Prop :=
  (Cond.methodLink own idx y ∈ WW ∧ Cond.static y ∈ WW ∧ Cond.initialized y.cls ∈ WW ∧ Cond.code y cc maxL ret ∈ WW) ∧ (y.cls ≠ "java/lang/invoke/MethodHandle" ∧ y.cls ≠ "java/lang/invoke/VarHandle" ∧ (parseMethodDescriptor y.desc).map (fun d => d.parameters.length) = some n)
def MNK (own : String) (idx : Nat) (y : MethodName) (cc : ByteArray) (maxL : Nat) (ret : Option FieldType) (n : Nat) : Prop :=
  ((own, idx, y) ∈ nests ∧ Cond.static y ∈ WW ∧ Cond.initialized y.cls ∈ WW ∧ Cond.code y cc maxL ret ∈ WW) ∧ (y.cls ≠ "java/lang/invoke/MethodHandle" ∧ y.cls ≠ "java/lang/invoke/VarHandle" ∧ (parseMethodDescriptor y.desc).map (fun d => d.parameters.length) = some n)
theorem good_WW {w : Cond} (h : w ∈ WW) : (w.onTables && w.keeps) = true ∨ ∃ ty, w = .arrayClass ty := good_of_word (WW_good h)
theorem goodIn_c {y : MethodName} {cc : ByteArray} {maxL : Nat} {ret : Option FieldType} (h : Cond.code y cc maxL ret ∈ WW) : GoodIn WW (Cond.code y cc maxL ret :: WW) := fun w hw => by
  rcases List.mem_cons.mp hw with rfl | hw
  · exact ⟨h, good_WW h⟩
  · exact ⟨hw, good_WW hw⟩
theorem goodIn_V {own : String} {idx n maxL : Nat} {y : MethodName} {cc : ByteArray} {ret : Option FieldType} (h : MLK own idx y cc maxL ret n) : GoodIn WW (wsV own idx y.cls y (Cond.code y cc maxL ret :: WW)) := by
  obtain ⟨⟨h1, h2, h3, h4, h5⟩, -⟩ := h
  intro w hw
  unfold wsV at hw
  rcases List.mem_append.mp hw with hw | hw
  · have h9 : w ∈ WW := by
      simp only [List.mem_cons, List.not_mem_nil, or_false] at hw
      rcases hw with rfl | rfl | rfl | rfl <;> assumption
    exact ⟨h9, good_WW h9⟩
  · exact goodIn_c h5 w hw
section
variable {p : Program} {l : Launch} {e : Env} {R : Room} {s : State} {m : MethodId} {args : Array Value} {below : List Frame} {meth : Method} {c : Code} {D : va_G} {dA ad sa : Nat → Nat} {L : List Nat} {A : Nat → Prop} {nL cells slots : Nat} {Q : State → Prop} {hp : Nat → KE} {own : String} {cc : ByteArray} {ret : Option FieldType} {tb : List (Nat × Instr × Nat)}

theorem kA_sub {A : Nat → Prop} {H0 H : Heap} {locs : List Loc} (hA : ∀ k ∈ L, A (ad k)) (hA2 : ∀ q, H0.size ≤ q → A q) (hS : va_S A H0 H locs) : ∀ q, kA ad L H.size q → A q := fun q h => by
  rcases h with ⟨k, hk, rfl⟩ | h
  · exact hA k hk
  · exact hA2 q (Nat.le_trans hS.1 h)
theorem k_run {H : Heap} {locs : List Loc} {mc ms pc : Nat} {ls : Array Slot} {st0 rest : List Value} {a : Array Value} {A1 free : Nat → Prop} {post : Option Value → (Nat → KE) → Prop} (hr : va_Run p l e R s m args below meth c H locs cells slots mc ms (F0 m pc ls st0) rest (kR D dA ad L A1 post a) free) (hS : va_S A s.heap H locs) (hA : ∀ q, A1 q → A q) (hf : ∀ q, free q → A q)
    (kk : ∀ (r : Option Value) (hp' : Nat → KE) (H1 : Heap) (locs1 : List Loc), post r hp' → va_P D kcl (kw dA ad L hp') H1 → va_S A s.heap H1 locs1 → W p l e R s m args below meth c H1 locs1 (cells + mc) (slots + ms) Q (F0 m (pc + 3) ls ((r.map (em ad)).toList ++ rest))) : W p l e R s m args below meth c H locs cells slots Q (F0 m pc ls st0) := by
  intro T hT X
  obtain ⟨v, st₀, t, T', L1, h0, X', hL, e1, e2, ⟨⟨r, hp', hv, hpo, hb⟩, hF⟩, st⟩ := hr T hT X
  cases hv
  obtain ⟨k1, k2, k3⟩ := vx_keep h0 e1 hS (fun q _ h => hA q h) hf hL hF
  obtain ⟨t2, a1, b1⟩ := kk r hp' T'.heap (locs ++ L1) hpo (by rw [e1]; exact hb) k3 T' rfl X'
  exact ⟨t2, st t2 a1, b1⟩
theorem k_runx {H : Heap} {locs : List Loc} {mc ms pc : Nat} {ls : Array Slot} {st0 rest : List Value} {a : Array Value} {A1 free : Nat → Prop} {post : Option Value → (Nat → KE) → Prop} {px : String → (Nat → KE) → Prop} (hr : vx_Run p l e R s m args below meth c H locs cells slots mc ms (F0 m pc ls st0) rest (kR D dA ad L A1 post a) (kX D dA ad L A1 px) free) (hS : va_S A s.heap H locs) (hA : ∀ q, A1 q → A q) (hf : ∀ q, free q → A q)
    (kx : ∀ (E : String) (hp' : Nat → KE) (H1 : Heap) (locs1 : List Loc) (ce : Cell) (q9 : Addr), px E hp' → va_P D kcl (kw dA ad L hp') H1 → va_S A s.heap H1 locs1 → H1[q9]? = some ce → ce.vm = .none → s.vm.findClass E = some ce.cls → vx_W p l e R s m args below meth c H1 locs1 (cells + mc) (slots + ms) Q (F0 m pc ls rest) q9)
    (kk : ∀ (r : Option Value) (hp' : Nat → KE) (H1 : Heap) (locs1 : List Loc), post r hp' → va_P D kcl (kw dA ad L hp') H1 → va_S A s.heap H1 locs1 → W p l e R s m args below meth c H1 locs1 (cells + mc) (slots + ms) Q (F0 m (pc + 3) ls ((r.map (em ad)).toList ++ rest))) : W p l e R s m args below meth c H locs cells slots Q (F0 m pc ls st0) := by
  intro T hT X
  rcases hr T hT X with ⟨v, st₀, t, T', L1, h0, X', hL, e1, e2, ⟨⟨r, hp', hv, hpo, hb⟩, hF⟩, st⟩ | ⟨q, st₀, t, T', L1, E, ce, h0, X', hL, e1, e2, ⟨⟨hp', hpo, hb⟩, hF⟩, hce, hcv, hcl, st⟩
  · cases hv
    obtain ⟨k1, k2, k3⟩ := vx_keep h0 e1 hS (fun q _ h => hA q h) hf hL hF
    obtain ⟨t2, a1, b1⟩ := kk r hp' T'.heap (locs ++ L1) hpo (by rw [e1]; exact hb) k3 T' rfl X'
    exact ⟨t2, st t2 a1, b1⟩
  · obtain ⟨k1, k2, k3⟩ := vx_keep h0 e1 hS (fun q _ h => hA q h) hf hL hF
    obtain ⟨t2, a1, b1⟩ := kx E hp' T'.heap (locs ++ L1) ce q hpo (by rw [e1]; exact hb) k3 (by rw [e1]; exact hce) hcv hcl T' rfl X'
    exact ⟨t2, st.trans a1, b1⟩
theorem em_cats (ad : Nat → Nat) (rest : List Value) : ((rest.map (em ad)).map fun v => v.category).sum = (rest.map fun v => v.category).sum := by
  induction rest with
  | nil => rfl
  | cons v r ih => simp only [List.map_cons, List.sum_cons, em_cat, ih]
theorem em_stk (ad : Nat → Nat) (r : Option Value) (rest : List Value) : (r.map (em ad)).toList ++ rest.map (em ad) = (r.toList ++ rest).map (em ad) := by cases r <;> rfl
/-- what a callee finds -/
theorem k_pre {H : Heap} {locs : List Loc} {av : List Value} (hC : CX p s m args meth c own cc nL ret tb D dA ad L A) (hN : NW A sa s s.heap) (hP : va_P D kcl (kw dA ad L hp) H) (hS : va_S A s.heap H locs) : ∀ U : State, U.heap = H → s.WarmedH U.vm → kPc D dA ad sa L av hp H.size (av.map (em ad)).toArray U := by
  obtain ⟨-, -, -, -, hK, -, -, hA, hA2⟩ := hC
  intro U hU hW
  refine ⟨rfl, by rw [hU], by rw [hU]; exact hP, va_K.moved hW.alike hK, ?_⟩
  rw [hU]
  exact NW.move hN hS hW (kA_sub hA hA2 hS)
set_option maxHeartbeats 2000000 in
theorem g_callV (hC : CX p s m args meth c own cc nL ret tb D dA ad L A) (hN : NW A sa s s.heap) {pc nx idx maxL2 : Nat} {k ci : Nat} {fs : List Value} {y : MethodName} {bytes : ByteArray} {ret2 : Option FieldType} {rm2 : Room} {rest st : List Value} {lv : List (Nat × Value)} {post : Option Value → (Nat → KE) → Prop} (As : List Value) (hM : KM l y bytes maxL2 ret2 rm2 D dA ad sa L (.ref k :: As) hp post) (hf : fd tb pc = some (.invokevirtual idx, nx)) (hm : MLK own idx y bytes maxL2 ret2 As.length) (hk : k ∈ L) (hh : hp k = kO ci fs) (hci : kcl[ci]? = some (y.cls, fT ci, fN ci)) (hst : st = As.reverse ++ .ref k :: rest) (hw : (rest.map fun v => v.category).sum ≤ 8) (hR : rm2.frames + 1 ≤ R.frames ∧ 8 + (maxL2 + 11) + rm2.locals ≤ R.locals) (hfc : cells + rm2.cells ≤ R.cells ∧ slots + rm2.slots ≤ R.slots)
    (kk : ∀ (r : Option Value) (hp' : Nat → KE), post r hp' → G p l e R s m args below meth c D dA ad L A nL (cells + rm2.cells) (slots + rm2.slots) Q hp' nx lv (r.toList ++ rest)) : G p l e R s m args below meth c D dA ad L A nL cells slots Q hp pc lv st := by
  have hC0 := hC
  obtain ⟨⟨hx, hb, hml, ho, hts⟩, hr9, hlk, htb, hK, hj1, hnd, hA, hA2⟩ := hC
  obtain ⟨n9, hd, hnx, hn9⟩ := fd_ok htb hf
  obtain rfl : n9 = 3 := hn9.resolve_left (by simp [ilen])
  subst hnx
  subst hst
  intro H locs ls hP hS hl
  obtain ⟨i, hi⟩ := kw_get (dA := dA) (ad := ad) (hp := hp) hk
  rw [hh] at hi
  have hrec := va_recv hK hP hci hi
  have hrun := va_runV (e := e) (below := below) (meth := meth) (locs := locs) (cells := cells) (slots := slots) (As := As.map (em ad)) (rest := rest.map (em ad)) (b := ad k) (C := y.cls) (g := F0 m pc ls ((As.reverse ++ .ref k :: rest).map (em ad))) ⟨hx, hb, hml, ho, hts⟩ (hM H.size) (cwV As.length hts (goodIn_V hm) rfl rfl rfl hm.2 hR) ⟨kPc_blind D dA ad sa L (.ref k :: As) hp H.size, hrec, k_pre hC0 hN hP hS⟩ rfl (by rw [List.length_map]) hl.1 (by simp [em]) (lv_room (by rw [em_cats]; exact hw)) hd hfc
  refine k_run hrun hS (kA_sub hA hA2 hS) (kA_sub hA hA2 hS) (fun r hp' H1 locs1 hpo hP1 hS1 => ?_)
  rw [em_stk]
  exact kk r hp' hpo H1 locs1 ls hP1 hS1 hl
set_option maxHeartbeats 2000000 in
theorem g_callS (hC : CX p s m args meth c own cc nL ret tb D dA ad L A) (hN : NW A sa s s.heap) {pc nx idx maxL2 : Nat} {y : MethodName} {bytes : ByteArray} {ret2 : Option FieldType} {rm2 : Room} {rest st : List Value} {lv : List (Nat × Value)} {post : Option Value → (Nat → KE) → Prop} (As : List Value) (hM : KM l y bytes maxL2 ret2 rm2 D dA ad sa L As hp post) (hf : fd tb pc = some (.invokestatic idx, nx)) (hm : MSK own idx y bytes maxL2 ret2 As.length) (hst : st = As.reverse ++ rest) (hw : (rest.map fun v => v.category).sum ≤ 8) (hR : rm2.frames + 1 ≤ R.frames ∧ 8 + (maxL2 + 11) + rm2.locals ≤ R.locals) (hfc : cells + rm2.cells ≤ R.cells ∧ slots + rm2.slots ≤ R.slots)
    (kk : ∀ (r : Option Value) (hp' : Nat → KE), post r hp' → G p l e R s m args below meth c D dA ad L A nL (cells + rm2.cells) (slots + rm2.slots) Q hp' nx lv (r.toList ++ rest)) : G p l e R s m args below meth c D dA ad L A nL cells slots Q hp pc lv st := by
  have hC0 := hC
  obtain ⟨⟨hx, hb, hml, ho, hts⟩, hr9, hlk, htb, hK, hj1, hnd, hA, hA2⟩ := hC
  obtain ⟨n9, hd, hnx, hn9⟩ := fd_ok htb hf
  obtain rfl : n9 = 3 := hn9.resolve_left (by simp [ilen])
  subst hnx
  subst hst
  intro H locs ls hP hS hl
  have hrun := va_runS (e := e) (below := below) (meth := meth) (locs := locs) (cells := cells) (slots := slots) (As := As.map (em ad)) (rest := rest.map (em ad)) (g := F0 m pc ls ((As.reverse ++ rest).map (em ad))) ⟨hx, hb, hml, ho, hts⟩ (hM H.size) ⟨callB_of As.length hts (goodIn_c hm.1.2.2.2) rfl rfl rfl (hts _ hm.1.2.2.1) (hts _ hm.1.1) hm.2 hR, hts _ hm.1.2.1⟩ ⟨kPc_blind D dA ad sa L As hp H.size, k_pre hC0 hN hP hS⟩ rfl (by rw [List.length_map]) hl.1 (by simp) (lv_room (by rw [em_cats]; exact hw)) hd hfc
  refine k_run hrun hS (kA_sub hA hA2 hS) (kA_sub hA hA2 hS) (fun r hp' H1 locs1 hpo hP1 hS1 => ?_)
  rw [em_stk]
  exact kk r hp' hpo H1 locs1 ls hP1 hS1 hl
set_option maxHeartbeats 2000000 in
theorem g_callN (hC : CX p s m args meth c own cc nL ret tb D dA ad L A) (hN : NW A sa s s.heap) {pc nx idx maxL2 : Nat} {y : MethodName} {bytes : ByteArray} {ret2 : Option FieldType} {rm2 : Room} {rest st : List Value} {lv : List (Nat × Value)} {post : Option Value → (Nat → KE) → Prop} (As : List Value) (hM : KM l y bytes maxL2 ret2 rm2 D dA ad sa L As hp post) (hf : fd tb pc = some (.invokestatic idx, nx)) (hm : MNK own idx y bytes maxL2 ret2 As.length) (hst : st = As.reverse ++ rest) (hw : (rest.map fun v => v.category).sum ≤ 8) (hR : rm2.frames + 1 ≤ R.frames ∧ 8 + (maxL2 + 11) + rm2.locals ≤ R.locals) (hfc : cells + rm2.cells ≤ R.cells ∧ slots + rm2.slots ≤ R.slots)
    (kk : ∀ (r : Option Value) (hp' : Nat → KE), post r hp' → G p l e R s m args below meth c D dA ad L A nL (cells + rm2.cells) (slots + rm2.slots) Q hp' nx lv (r.toList ++ rest)) : G p l e R s m args below meth c D dA ad L A nL cells slots Q hp pc lv st := by
  have hC0 := hC
  obtain ⟨⟨hx, hb, hml, ho, hts⟩, hr9, hlk, htb, hK, hj1, hnd, hA, hA2⟩ := hC
  obtain ⟨n9, hd, hnx, hn9⟩ := fd_ok htb hf
  obtain rfl : n9 = 3 := hn9.resolve_left (by simp [ilen])
  subst hnx
  subst hst
  intro H locs ls hP hS hl
  have hrun := va_runSN (e := e) (below := below) (meth := meth) (locs := locs) (cells := cells) (slots := slots) (host := RX2) (As := As.map (em ad)) (rest := rest.map (em ad)) (g := F0 m pc ls ((As.reverse ++ rest).map (em ad))) ⟨hx, hb, hml, ho, hts⟩ (hM H.size) ⟨va_cnB As.length hts (goodIn_c hm.1.2.2.2) rfl rfl rfl (hN.2.1 _ hm.1.1) (hts _ hm.1.2.2.1) hm.2 hR, hts _ hm.1.2.1, trivial⟩ ⟨kPc_blind D dA ad sa L As hp H.size, k_pre hC0 hN hP hS⟩ rfl (by rw [List.length_map]) hl.1 (by simp) (lv_room (by rw [em_cats]; exact hw)) hd hfc
  refine k_run hrun hS (kA_sub hA hA2 hS) (kA_sub hA hA2 hS) (fun r hp' H1 locs1 hpo hP1 hS1 => ?_)
  rw [em_stk]
  exact kk r hp' hpo H1 locs1 ls hP1 hS1 hl
set_option maxHeartbeats 2000000 in
theorem g_callVX (hC : CX p s m args meth c own cc nL ret tb D dA ad L A) (hN : NW A sa s s.heap) {pc nx idx maxL2 : Nat} {k ci : Nat} {fs : List Value} {y : MethodName} {bytes : ByteArray} {ret2 : Option FieldType} {rm2 : Room} {rest st : List Value} {lv : List (Nat × Value)} {post : Option Value → (Nat → KE) → Prop} {px px0 : String → (Nat → KE) → Prop} {post0 : Option Value → (Nat → KE) → Prop} {mc ms : Nat} (hE : ∀ x ∈ c.exceptionTable.toList, False) (hmc : cells + rm2.cells ≤ mc ∧ slots + rm2.slots ≤ ms) (hpx : ∀ E hp', px E hp' → px0 E hp') (As : List Value) (hM : KX l y bytes maxL2 ret2 rm2 D dA ad sa L (.ref k :: As) hp post px) (hf : fd tb pc = some (.invokevirtual idx, nx)) (hm : MLK own idx y bytes maxL2 ret2 As.length) (hk : k ∈ L) (hh : hp k = kO ci fs) (hci : kcl[ci]? = some (y.cls, fT ci, fN ci)) (hst : st = As.reverse ++ .ref k :: rest) (hw : (rest.map fun v => v.category).sum ≤ 8) (hR : rm2.frames + 1 ≤ R.frames ∧ 8 + (maxL2 + 11) + rm2.locals ≤ R.locals) (hfc : cells + rm2.cells ≤ R.cells ∧ slots + rm2.slots ≤ R.slots)
    (kk : ∀ (r : Option Value) (hp' : Nat → KE), post r hp' → G p l e R s m args below meth c D dA ad L A nL (cells + rm2.cells) (slots + rm2.slots) (vx_MQ below (kR D dA ad L A post0) (kX D dA ad L A px0) args s mc ms A) hp' nx lv (r.toList ++ rest)) : G p l e R s m args below meth c D dA ad L A nL cells slots (vx_MQ below (kR D dA ad L A post0) (kX D dA ad L A px0) args s mc ms A) hp pc lv st := by
  have hC0 := hC
  obtain ⟨⟨hx, hb, hml, ho, hts⟩, hr9, hlk, htb, hK, hj1, hnd, hA, hA2⟩ := hC
  obtain ⟨n9, hd, hnx, hn9⟩ := fd_ok htb hf
  obtain rfl : n9 = 3 := hn9.resolve_left (by simp [ilen])
  subst hnx
  subst hst
  intro H locs ls hP hS hl
  obtain ⟨i, hi⟩ := kw_get (dA := dA) (ad := ad) (hp := hp) hk
  rw [hh] at hi
  have hrec := va_recv hK hP hci hi
  have hrun := vx_runV (e := e) (below := below) (meth := meth) (locs := locs) (cells := cells) (slots := slots) (As := As.map (em ad)) (rest := rest.map (em ad)) (b := ad k) (C := y.cls) (g := F0 m pc ls ((As.reverse ++ .ref k :: rest).map (em ad))) ⟨hx, hb, hml, ho, hts⟩ (hM H.size) (cwV As.length hts (goodIn_V hm) rfl rfl rfl hm.2 hR) ⟨kPc_blind D dA ad sa L (.ref k :: As) hp H.size, hrec, k_pre hC0 hN hP hS⟩ rfl (by rw [List.length_map]) hl.1 (by simp [em]) (lv_room (by rw [em_cats]; exact hw)) hd hfc
  refine k_runx hrun hS (kA_sub hA hA2 hS) (kA_sub hA hA2 hS) (fun E hp' H1 locs1 ce q9 hpe hP1 hS1 hce hcv hcl => vx_out (fun x hx9 => (hE x hx9).elim) hlk hce hcv hcl (fun t ht _ => ⟨⟨hp', hpx E hp' hpe, by rw [ht]; exact hP1⟩, hS1.F ht⟩) hS1.2.2 hmc.1 hmc.2) (fun r hp' H1 locs1 hpo hP1 hS1 => ?_)
  rw [em_stk]
  exact kk r hp' hpo H1 locs1 ls hP1 hS1 hl
set_option maxHeartbeats 2000000 in
theorem g_callSX (hC : CX p s m args meth c own cc nL ret tb D dA ad L A) (hN : NW A sa s s.heap) {pc nx idx maxL2 : Nat} {y : MethodName} {bytes : ByteArray} {ret2 : Option FieldType} {rm2 : Room} {rest st : List Value} {lv : List (Nat × Value)} {post : Option Value → (Nat → KE) → Prop} {px px0 : String → (Nat → KE) → Prop} {post0 : Option Value → (Nat → KE) → Prop} {mc ms : Nat} (hE : ∀ x ∈ c.exceptionTable.toList, False) (hmc : cells + rm2.cells ≤ mc ∧ slots + rm2.slots ≤ ms) (hpx : ∀ E hp', px E hp' → px0 E hp') (As : List Value) (hM : KX l y bytes maxL2 ret2 rm2 D dA ad sa L As hp post px) (hf : fd tb pc = some (.invokestatic idx, nx)) (hm : MSK own idx y bytes maxL2 ret2 As.length) (hst : st = As.reverse ++ rest) (hw : (rest.map fun v => v.category).sum ≤ 8) (hR : rm2.frames + 1 ≤ R.frames ∧ 8 + (maxL2 + 11) + rm2.locals ≤ R.locals) (hfc : cells + rm2.cells ≤ R.cells ∧ slots + rm2.slots ≤ R.slots)
    (kk : ∀ (r : Option Value) (hp' : Nat → KE), post r hp' → G p l e R s m args below meth c D dA ad L A nL (cells + rm2.cells) (slots + rm2.slots) (vx_MQ below (kR D dA ad L A post0) (kX D dA ad L A px0) args s mc ms A) hp' nx lv (r.toList ++ rest)) : G p l e R s m args below meth c D dA ad L A nL cells slots (vx_MQ below (kR D dA ad L A post0) (kX D dA ad L A px0) args s mc ms A) hp pc lv st := by
  have hC0 := hC
  obtain ⟨⟨hx, hb, hml, ho, hts⟩, hr9, hlk, htb, hK, hj1, hnd, hA, hA2⟩ := hC
  obtain ⟨n9, hd, hnx, hn9⟩ := fd_ok htb hf
  obtain rfl : n9 = 3 := hn9.resolve_left (by simp [ilen])
  subst hnx
  subst hst
  intro H locs ls hP hS hl
  have hrun := vx_runS (e := e) (below := below) (meth := meth) (locs := locs) (cells := cells) (slots := slots) (As := As.map (em ad)) (rest := rest.map (em ad)) (g := F0 m pc ls ((As.reverse ++ rest).map (em ad))) ⟨hx, hb, hml, ho, hts⟩ (hM H.size) ⟨callB_of As.length hts (goodIn_c hm.1.2.2.2) rfl rfl rfl (hts _ hm.1.2.2.1) (hts _ hm.1.1) hm.2 hR, hts _ hm.1.2.1⟩ ⟨kPc_blind D dA ad sa L As hp H.size, k_pre hC0 hN hP hS⟩ rfl (by rw [List.length_map]) hl.1 (by simp) (lv_room (by rw [em_cats]; exact hw)) hd hfc
  refine k_runx hrun hS (kA_sub hA hA2 hS) (kA_sub hA hA2 hS) (fun E hp' H1 locs1 ce q9 hpe hP1 hS1 hce hcv hcl => vx_out (fun x hx9 => (hE x hx9).elim) hlk hce hcv hcl (fun t ht _ => ⟨⟨hp', hpx E hp' hpe, by rw [ht]; exact hP1⟩, hS1.F ht⟩) hS1.2.2 hmc.1 hmc.2) (fun r hp' H1 locs1 hpo hP1 hS1 => ?_)
  rw [em_stk]
  exact kk r hp' hpo H1 locs1 ls hP1 hS1 hl
/-- 'throw new E("text")' of the class GatePolynomials -/
def thN : List String := ["java/lang/RuntimeException", "java/lang/Exception"]
def THR (E : String) (ik is ic : Nat) (text : String) : Prop := (Bundle.fit E = true ∧ (∀ n ∈ thN, Bundle.fit n = true)) ∧ Cond.classLink RX2 ik E ∈ WW ∧ Cond.initialized E ∈ WW ∧ (is, text) ∈ strs ∧ (∀ w ∈ vx_atS RX2 ic E thN, w ∈ lw_tbl ∧ (goodWord w || faceW w) = true) ∧ (∀ w ∈ Cond.classLink RX2 ik E :: Cond.initialized E :: vx_atS RX2 ic E thN, vx_ot w = true)
theorem hat_of {E text : String} {ik is ic : Nat} (h : THR E ik is ic text) (hts : ∀ w ∈ WW, w.before args s = true) (hN : NW A sa s s.heap) : ∀ w ∈ vx_atS RX2 ic E thN, w.before args s = true := fun w hw => by
  obtain ⟨h1, h2⟩ := h.2.2.2.2.1 w hw
  by_cases hg : goodWord w = true
  · exact hts w (WW_of h1 hg)
  · have hf : faceW w = true := by
      cases hq : goodWord w with
      | true => exact absurd hq hg
      | false => rw [hq] at h2; exact h2
    have h3 := hN.1 w (TW_of h1 hf)
    exact face_same rfl hf h3
theorem kx_keep {H : Heap} {locs : List Loc} {px : String → (Nat → KE) → Prop} {E : String} (hP : va_P D kcl (kw dA ad L hp) H) (hS : va_S A s.heap H locs) (hpx : px E hp) : ∀ t : State, s.vm.Alike t.vm → H.size ≤ t.heap.size → (∀ q : Nat, q < H.size → t.heap[q]? = H[q]?) → kX D dA ad L A px E s t := fun t _ hz hq =>
  ⟨⟨hp, hpx, hP.kept fun k q hk => hq q.1 (hP k q hk).lt⟩, Nat.le_trans hS.1 hz, fun q h1 h2 => by rw [hq q (Nat.lt_of_lt_of_le h1 hS.1)]; exact hS.2.1 q h1 h2⟩

theorem g_throw {tb : List (Nat × Instr × Nat)} (hC : CX p s m args meth c RX2 cc nL ret tb D dA ad L A) (hN : NW A sa s s.heap) (hE : ∀ x ∈ c.exceptionTable.toList, False) (hfl : l.stackTraces = false) {pc ik is ic mc ms n1 n2 n3 n4 n5 : Nat} {E text : String} {lv : List (Nat × Value)} {post : Option Value → (Nat → KE) → Prop} {px : String → (Nat → KE) → Prop} {rest : List Value}
    (hT : THR E ik is ic text) (d0 : fd tb pc = some (.new ik, n1)) (d3 : fd tb (pc + 3) = some (.dup, n2)) (d4 : fd tb (pc + 4) = some (.ldc is, n3)) (d6 : fd tb (pc + 6) = some (.invokespecial ic, n4)) (d9 : fd tb (pc + 9) = some (.athrow, n5))
    (hR : 5 < R.frames ∧ (rest.map fun v => v.category).sum + 82 ≤ R.locals) (hfc : cells + 1 ≤ R.cells ∧ slots + 6 ≤ R.slots) (hmc : cells + 1 ≤ mc ∧ slots + 6 ≤ ms) (hpx : px E hp) :
    G p l e R s m args below meth c D dA ad L A nL cells slots (vx_MQ below (kR D dA ad L A post) (kX D dA ad L A px) args s mc ms A) hp pc lv rest := by
  obtain ⟨⟨hx, hb, hml, ho, hts⟩, hr9, hlk, htb, hK, hj1, hnd, hA, hA2⟩ := hC
  obtain ⟨k0, e0, -, q0⟩ := fd_ok htb d0
  obtain rfl : k0 = 3 := q0.resolve_left (by simp [ilen])
  obtain ⟨k0, e3, -, q0⟩ := fd_ok htb d3
  obtain rfl : k0 = 1 := q0.resolve_left (by simp [ilen])
  obtain ⟨k0, e4, -, q0⟩ := fd_ok htb d4
  obtain rfl : k0 = 2 := q0.resolve_left (by simp [ilen])
  obtain ⟨k0, e6, -, q0⟩ := fd_ok htb d6
  obtain rfl : k0 = 3 := q0.resolve_left (by simp [ilen])
  obtain ⟨k0, e9, -, q0⟩ := fd_ok htb d9
  obtain rfl : k0 = 1 := q0.resolve_left (by simp [ilen])
  intro H locs ls hP hS hl
  exact vx_throwS (names := thN) hx hb hfl ho hT.1.1 hT.1.2 (hts _ hT.2.1) (hts _ hT.2.2.1) (hN.2.2.1 _ hT.2.2.2.1) (hat_of hT hts hN) hT.2.2.2.2.2 hN.2.2.2.1 hN.2.2.2.2 hS (hl.1.trans hml.symm) e0 e3 e4 e6 e9 (fun x hx9 => (hE x hx9).elim) hR.1 (by rw [em_cats]; exact hR.2) hfc.1 hfc.2 hlk (kx_keep hP hS hpx) hS.2.2 hmc.1 hmc.2
theorem g_throwW {tb : List (Nat × Instr × Nat)} (hC : CX p s m args meth c RX2 cc nL ret tb D dA ad L A) (hN : NW A sa s s.heap) (hE : ∀ x ∈ c.exceptionTable.toList, False) (hfl : l.stackTraces = false) {pc ik is ic mc ms n1 n2 n3 n4 n5 : Nat} {E text : String} {lv : List (Nat × Value)} {post : Option Value → (Nat → KE) → Prop} {px : String → (Nat → KE) → Prop} {rest : List Value}
    (hT : THR E ik is ic text) (d0 : fd tb pc = some (.new ik, n1)) (d3 : fd tb (pc + 3) = some (.dup, n2)) (d4 : fd tb (pc + 4) = some (.ldc_w is, n3)) (d6 : fd tb (pc + 7) = some (.invokespecial ic, n4)) (d9 : fd tb (pc + 10) = some (.athrow, n5))
    (hR : 5 < R.frames ∧ (rest.map fun v => v.category).sum + 82 ≤ R.locals) (hfc : cells + 1 ≤ R.cells ∧ slots + 6 ≤ R.slots) (hmc : cells + 1 ≤ mc ∧ slots + 6 ≤ ms) (hpx : px E hp) :
    G p l e R s m args below meth c D dA ad L A nL cells slots (vx_MQ below (kR D dA ad L A post) (kX D dA ad L A px) args s mc ms A) hp pc lv rest := by
  obtain ⟨⟨hx, hb, hml, ho, hts⟩, hr9, hlk, htb, hK, hj1, hnd, hA, hA2⟩ := hC
  obtain ⟨k0, e0, -, q0⟩ := fd_ok htb d0
  obtain rfl : k0 = 3 := q0.resolve_left (by simp [ilen])
  obtain ⟨k0, e3, -, q0⟩ := fd_ok htb d3
  obtain rfl : k0 = 1 := q0.resolve_left (by simp [ilen])
  obtain ⟨k0, e4, -, q0⟩ := fd_ok htb d4
  obtain rfl : k0 = 3 := q0.resolve_left (by simp [ilen])
  obtain ⟨k0, e6, -, q0⟩ := fd_ok htb d6
  obtain rfl : k0 = 3 := q0.resolve_left (by simp [ilen])
  obtain ⟨k0, e9, -, q0⟩ := fd_ok htb d9
  obtain rfl : k0 = 1 := q0.resolve_left (by simp [ilen])
  intro H locs ls hP hS hl
  exact vx_throwSW (names := thN) hx hb hfl ho hT.1.1 hT.1.2 (hts _ hT.2.1) (hts _ hT.2.2.1) (hN.2.2.1 _ hT.2.2.2.1) (hat_of hT hts hN) hT.2.2.2.2.2 hN.2.2.2.1 hN.2.2.2.2 hS (hl.1.trans hml.symm) e0 e3 e4 e6 e9 (fun x hx9 => (hE x hx9).elim) hR.1 (by rw [em_cats]; exact hR.2) hfc.1 hfc.2 hlk (kx_keep hP hS hpx) hS.2.2 hmc.1 hmc.2
end
end
section
theorem F_X1_9 : FLD RX1 9 1 0 := ⟨⟨rfl, Nat.le_of_ble_eq_true rfl, fL_X1_9, rfl, uw_1⟩, tyX1_ok, nmX1⟩
theorem F_X1_21 : FLD RX1 21 1 1 := ⟨⟨rfl, Nat.le_of_ble_eq_true rfl, fL_X1_21, rfl, uw_1⟩, tyX1_ok, nmX1⟩
theorem F_X0_19 : FLD RX0 19 0 0 := ⟨⟨rfl, Nat.le_of_ble_eq_true rfl, fL_X0_19, rfl, uw_0⟩, tyX0_ok, nmX0⟩
theorem F_X0_23 : FLD RX0 23 0 1 := ⟨⟨rfl, Nat.le_of_ble_eq_true rfl, fL_X0_23, rfl, uw_0⟩, tyX0_ok, nmX0⟩
theorem F_X0_26 : FLD RX0 26 0 2 := ⟨⟨rfl, Nat.le_of_ble_eq_true rfl, fL_X0_26, rfl, uw_0⟩, tyX0_ok, nmX0⟩
theorem F_X0_29 : FLD RX0 29 0 3 := ⟨⟨rfl, Nat.le_of_ble_eq_true rfl, fL_X0_29, rfl, uw_0⟩, tyX0_ok, nmX0⟩
theorem F_X0_11 : FLD RX0 11 0 4 := ⟨⟨rfl, Nat.le_of_ble_eq_true rfl, fL_X0_11, rfl, uw_0⟩, tyX0_ok, nmX0⟩
theorem F_X0_15 : FLD RX0 15 0 5 := ⟨⟨rfl, Nat.le_of_ble_eq_true rfl, fL_X0_15, rfl, uw_0⟩, tyX0_ok, nmX0⟩
theorem F_X2_11 : FLD RX2 11 2 0 := ⟨⟨rfl, Nat.le_of_ble_eq_true rfl, fL_X2_11, rfl, uw_2⟩, tyX2_ok, nmX2⟩
theorem F_X2_37 : FLD RX2 37 2 1 := ⟨⟨rfl, Nat.le_of_ble_eq_true rfl, fL_X2_37, rfl, uw_2⟩, tyX2_ok, nmX2⟩
theorem F_X2_33 : FLD RX2 33 2 2 := ⟨⟨rfl, Nat.le_of_ble_eq_true rfl, fL_X2_33, rfl, uw_2⟩, tyX2_ok, nmX2⟩
theorem F_X2_18 : FLD RX2 18 2 3 := ⟨⟨rfl, Nat.le_of_ble_eq_true rfl, fL_X2_18, rfl, uw_2⟩, tyX2_ok, nmX2⟩
theorem F_X2_68 : FLD RX2 68 2 4 := ⟨⟨rfl, Nat.le_of_ble_eq_true rfl, fL_X2_68, rfl, uw_2⟩, tyX2_ok, nmX2⟩
theorem F_X2_22 : FLD RX2 22 2 5 := ⟨⟨rfl, Nat.le_of_ble_eq_true rfl, fL_X2_22, rfl, uw_2⟩, tyX2_ok, nmX2⟩
theorem F_X2_113 : FLD RX2 113 2 6 := ⟨⟨rfl, Nat.le_of_ble_eq_true rfl, fL_X2_113, rfl, uw_2⟩, tyX2_ok, nmX2⟩
theorem F_X2_26 : FLD RX2 26 2 7 := ⟨⟨rfl, Nat.le_of_ble_eq_true rfl, fL_X2_26, rfl, uw_2⟩, tyX2_ok, nmX2⟩
theorem M_L_79 : MLK RL 79 yX2_wires cX2_wires 1 (some .int) 0 := ⟨⟨mL_L_79, yI_X2_wires, sl_X2_wires, iN_X2, cd_X2_wires⟩, rfl, by decide, by decide, by decide +kernel⟩
theorem M_L_97 : MLK RL 97 yX2_lines cX2_lines 1 (some .int) 0 := ⟨⟨mL_L_97, yI_X2_lines, sl_X2_lines, iN_X2, cd_X2_lines⟩, rfl, by decide, by decide, by decide +kernel⟩
theorem M_L_120 : MLK RL 120 yX2_clear cX2_clear 2 (some .int) 0 := ⟨⟨mL_L_120, yI_X2_clear, sl_X2_clear, iN_X2, cd_X2_clear⟩, rfl, by decide, by decide, by decide +kernel⟩
theorem M_X2_151 : MLK RX2 151 yX1_erase cX1_erase 1 none 0 := ⟨⟨mL_X2_151, yI_X1_erase, sl_X1_erase, iN_X1, cd_X1_erase⟩, rfl, by decide, by decide, by decide +kernel⟩
theorem M_X1_15 : MSK RX1 15 yJ7_fill_d0a16 cJ7_fill_d0a16 5 none 2 := ⟨⟨mL_X1_15, yS_J7_fill_d0a16, iN_J7, cd_J7_fill_d0a16⟩, by decide, by decide, by decide +kernel⟩
theorem M_X2_80 : MLK RX2 80 yX2_dropProof cX2_dropProof 1 none 0 := ⟨⟨mL_X2_80, yI_X2_dropProof, sl_X2_dropProof, iN_X2, cd_X2_dropProof⟩, rfl, by decide, by decide, by decide +kernel⟩
theorem M_L_7 : MLK RL 7 yX2_input cX2_input 1 (some .int) 0 := ⟨⟨mL_L_7, yI_X2_input, sl_X2_input, iN_X2, cd_X2_input⟩, rfl, by decide, by decide, by decide +kernel⟩
theorem M_X2_30 : MLK RX2 30 yX2_refuseTenthWire cX2_refuseTenthWire 1 none 0 := ⟨⟨mL_X2_30, yI_X2_refuseTenthWire, sl_X2_refuseTenthWire, iN_X2, cd_X2_refuseTenthWire⟩, rfl, by decide, by decide, by decide +kernel⟩
theorem M_X2_40 : MSK RX2 40 yX2_bitOf cX2_bitOf 1 (some .int) 1 := ⟨⟨mL_X2_40, yS_X2_bitOf, iN_X2, cd_X2_bitOf⟩, by decide, by decide, by decide +kernel⟩
theorem M_X2_44 : MLK RX2 44 yX2_countNewWire cX2_countNewWire 1 (some .int) 0 := ⟨⟨mL_X2_44, yI_X2_countNewWire, sl_X2_countNewWire, iN_X2, cd_X2_countNewWire⟩, rfl, by decide, by decide, by decide +kernel⟩
theorem M_L_15 : MLK RL 15 yX2_gate cX2_gate 7 (some .int) 4 := ⟨⟨mL_L_15, yI_X2_gate, sl_X2_gate, iN_X2, cd_X2_gate⟩, rfl, by decide, by decide, by decide +kernel⟩
theorem M_X2_48 : MLK RX2 48 yX2_isLiteral cX2_isLiteral 2 (some .boolean) 1 := ⟨⟨mL_X2_48, yI_X2_isLiteral, sl_X2_isLiteral, iN_X2, cd_X2_isLiteral⟩, rfl, by decide, by decide, by decide +kernel⟩
theorem M_X2_59 : MLK RX2 59 yX0_become cX0_become 6 none 4 := ⟨⟨mL_X2_59, yI_X0_become, sl_X0_become, iN_X0, cd_X0_become⟩, rfl, by decide, by decide, by decide +kernel⟩
theorem M_X0_32 : MLK RX0 32 yX0_setTermToValue cX0_setTermToValue 5 none 4 := ⟨⟨mL_X0_32, yI_X0_setTermToValue, sl_X0_setTermToValue, iN_X0, cd_X0_setTermToValue⟩, rfl, by decide, by decide, by decide +kernel⟩
theorem M_X0_54 : MSK RX0 54 yX0_wireBit cX0_wireBit 1 (some .int) 1 := ⟨⟨mL_X0_54, yS_X0_wireBit, iN_X0, cd_X0_wireBit⟩, by decide, by decide, by decide +kernel⟩
theorem M_X0_61 : MNK RX0 61 yX2_bitOf cX2_bitOf 1 (some .int) 1 := ⟨⟨by simp [nests], yS_X2_bitOf, iN_X2, cd_X2_bitOf⟩, by decide, by decide, by decide +kernel⟩
theorem M_X0_58 : MSK RX0 58 yX0_literalFor cX0_literalFor 2 (some .int) 2 := ⟨⟨mL_X0_58, yS_X0_literalFor, iN_X0, cd_X0_literalFor⟩, by decide, by decide, by decide +kernel⟩
theorem M_X0_44 : MLK RX0 44 yX0_outcome cX0_outcome 4 (some .int) 3 := ⟨⟨mL_X0_44, yI_X0_outcome, sl_X0_outcome, iN_X0, cd_X0_outcome⟩, rfl, by decide, by decide, by decide +kernel⟩
theorem M_X0_36 : MLK RX0 36 yX0_turnValuesToNumbers cX0_turnValuesToNumbers 3 none 1 := ⟨⟨mL_X0_36, yI_X0_turnValuesToNumbers, sl_X0_turnValuesToNumbers, iN_X0, cd_X0_turnValuesToNumbers⟩, rfl, by decide, by decide, by decide +kernel⟩
theorem M_L_21 : MLK RL 21 yX2_add cX2_add 3 (some .int) 2 := ⟨⟨mL_L_21, yI_X2_add, sl_X2_add, iN_X2, cd_X2_add⟩, rfl, by decide, by decide, by decide +kernel⟩
theorem M_X2_63 : MLK RX2 63 yX2_isSet cX2_isSet 2 (some .boolean) 1 := ⟨⟨mL_X2_63, yI_X2_isSet, sl_X2_isSet, iN_X2, cd_X2_isSet⟩, rfl, by decide, by decide, by decide +kernel⟩
theorem M_X2_76 : MLK RX2 76 yX1_increase cX1_increase 8 (some .long) 2 := ⟨⟨mL_X2_76, yI_X1_increase, sl_X1_increase, iN_X1, cd_X1_increase⟩, rfl, by decide, by decide, by decide +kernel⟩
theorem M_L_25 : MLK RL 25 yX2_simulate cX2_simulate 2 (some .int) 1 := ⟨⟨mL_L_25, yI_X2_simulate, sl_X2_simulate, iN_X2, cd_X2_simulate⟩, rfl, by decide, by decide, by decide +kernel⟩
theorem M_X2_83 : MLK RX2 83 yX2_refuseOtherThanInputs cX2_refuseOtherThanInputs 2 none 1 := ⟨⟨mL_X2_83, yI_X2_refuseOtherThanInputs, sl_X2_refuseOtherThanInputs, iN_X2, cd_X2_refuseOtherThanInputs⟩, rfl, by decide, by decide, by decide +kernel⟩
theorem M_X2_87 : MLK RX2 87 yX2_wiresThatAreOne cX2_wiresThatAreOne 4 (some .int) 1 := ⟨⟨mL_X2_87, yI_X2_wiresThatAreOne, sl_X2_wiresThatAreOne, iN_X2, cd_X2_wiresThatAreOne⟩, rfl, by decide, by decide, by decide +kernel⟩
theorem M_X2_98 : MLK RX2 98 yX2_isGate cX2_isGate 2 (some .boolean) 1 := ⟨⟨mL_X2_98, yI_X2_isGate, sl_X2_isGate, iN_X2, cd_X2_isGate⟩, rfl, by decide, by decide, by decide +kernel⟩
theorem M_X2_162 : MLK RX2 162 yX0_valueWhere cX0_valueWhere 2 (some .int) 1 := ⟨⟨mL_X2_162, yI_X0_valueWhere, sl_X0_valueWhere, iN_X0, cd_X0_valueWhere⟩, rfl, by decide, by decide, by decide +kernel⟩
theorem M_X0_40 : MSK RX0 40 yX0_literalWhere cX0_literalWhere 2 (some .int) 2 := ⟨⟨mL_X0_40, yS_X0_literalWhere, iN_X0, cd_X0_literalWhere⟩, by decide, by decide, by decide +kernel⟩
theorem M_L_29 : MLK RL 29 yX2_evaluate cX2_evaluate 2 (some .long) 1 := ⟨⟨mL_L_29, yI_X2_evaluate, sl_X2_evaluate, iN_X2, cd_X2_evaluate⟩, rfl, by decide, by decide, by decide +kernel⟩
theorem M_X2_90 : MLK RX2 90 yX1_valueWhere cX1_valueWhere 5 (some .long) 1 := ⟨⟨mL_X2_90, yI_X1_valueWhere, sl_X1_valueWhere, iN_X1, cd_X1_valueWhere⟩, rfl, by decide, by decide, by decide +kernel⟩
theorem M_L_33 : MLK RL 33 yX2_prove cX2_prove 3 (some .int) 0 := ⟨⟨mL_L_33, yI_X2_prove, sl_X2_prove, iN_X2, cd_X2_prove⟩, rfl, by decide, by decide, by decide +kernel⟩
theorem M_X2_94 : MLK RX2 94 yX1_becomeCopy cX1_becomeCopy 2 none 1 := ⟨⟨mL_X2_94, yI_X1_becomeCopy, sl_X1_becomeCopy, iN_X1, cd_X1_becomeCopy⟩, rfl, by decide, by decide, by decide +kernel⟩
theorem M_X2_101 : MLK RX2 101 yX1_becomeElimination cX1_becomeElimination 7 none 3 := ⟨⟨mL_X2_101, yI_X1_becomeElimination, sl_X1_becomeElimination, iN_X1, cd_X1_becomeElimination⟩, rfl, by decide, by decide, by decide +kernel⟩
theorem M_X1_31 : MLK RX1 31 yX1_erase cX1_erase 1 none 0 := ⟨⟨mL_X1_31, yI_X1_erase, sl_X1_erase, iN_X1, cd_X1_erase⟩, rfl, by decide, by decide, by decide +kernel⟩
theorem M_X1_34 : MLK RX1 34 yX1_increase cX1_increase 8 (some .long) 2 := ⟨⟨mL_X1_34, yI_X1_increase, sl_X1_increase, iN_X1, cd_X1_increase⟩, rfl, by decide, by decide, by decide +kernel⟩
theorem M_X1_38 : MLK RX1 38 yX0_addProduct cX0_addProduct 6 none 3 := ⟨⟨mL_X1_38, yI_X0_addProduct, sl_X0_addProduct, iN_X0, cd_X0_addProduct⟩, rfl, by decide, by decide, by decide +kernel⟩
theorem M_X0_48 : MLK RX0 48 yX1_increase cX1_increase 8 (some .long) 2 := ⟨⟨mL_X0_48, yI_X1_increase, sl_X1_increase, iN_X1, cd_X1_increase⟩, rfl, by decide, by decide, by decide +kernel⟩
theorem M_X2_105 : MLK RX2 105 yX1_monomialCount cX1_monomialCount 1 (some .int) 0 := ⟨⟨mL_X2_105, yI_X1_monomialCount, sl_X1_monomialCount, iN_X1, cd_X1_monomialCount⟩, rfl, by decide, by decide, by decide +kernel⟩
theorem M_L_38 : MLK RL 38 yX2_size cX2_size 2 (some .int) 1 := ⟨⟨mL_L_38, yI_X2_size, sl_X2_size, iN_X2, cd_X2_size⟩, rfl, by decide, by decide, by decide +kernel⟩
theorem M_X2_116 : MLK RX2 116 yX2_lineAt cX2_lineAt 2 (some (.object "GatePolynomials$Polynomial")) 1 := ⟨⟨mL_X2_116, yI_X2_lineAt, sl_X2_lineAt, iN_X2, cd_X2_lineAt⟩, rfl, by decide, by decide, by decide +kernel⟩
theorem M_X2_136 : MLK RX2 136 yX2_refuseWithoutProof cX2_refuseWithoutProof 1 none 0 := ⟨⟨mL_X2_136, yI_X2_refuseWithoutProof, sl_X2_refuseWithoutProof, iN_X2, cd_X2_refuseWithoutProof⟩, rfl, by decide, by decide, by decide +kernel⟩
theorem M_L_43 : MLK RL 43 yX2_monomial cX2_monomial 4 (some .int) 2 := ⟨⟨mL_L_43, yI_X2_monomial, sl_X2_monomial, iN_X2, cd_X2_monomial⟩, rfl, by decide, by decide, by decide +kernel⟩
theorem M_X2_125 : MLK RX2 125 yX1_monomialAt cX1_monomialAt 4 (some .int) 1 := ⟨⟨mL_X2_125, yI_X1_monomialAt, sl_X1_monomialAt, iN_X1, cd_X1_monomialAt⟩, rfl, by decide, by decide, by decide +kernel⟩
theorem M_L_46 : MLK RL 46 yX2_coefficient cX2_coefficient 4 (some .long) 2 := ⟨⟨mL_L_46, yI_X2_coefficient, sl_X2_coefficient, iN_X2, cd_X2_coefficient⟩, rfl, by decide, by decide, by decide +kernel⟩
theorem M_X2_128 : MLK RX2 128 yX2_refuseSetOutside cX2_refuseSetOutside 2 none 1 := ⟨⟨mL_X2_128, yI_X2_refuseSetOutside, sl_X2_refuseSetOutside, iN_X2, cd_X2_refuseSetOutside⟩, rfl, by decide, by decide, by decide +kernel⟩
theorem M_X2_131 : MLK RX2 131 yX1_numberOf cX1_numberOf 2 (some .long) 1 := ⟨⟨mL_X2_131, yI_X1_numberOf, sl_X1_numberOf, iN_X1, cd_X1_numberOf⟩, rfl, by decide, by decide, by decide +kernel⟩
theorem M_L_50 : MLK RL 50 yX2_spoil cX2_spoil 6 (some .long) 3 := ⟨⟨mL_L_50, yI_X2_spoil, sl_X2_spoil, iN_X2, cd_X2_spoil⟩, rfl, by decide, by decide, by decide +kernel⟩
theorem M_L_54 : MLK RL 54 yX2_check cX2_check 3 (some .int) 0 := ⟨⟨mL_L_54, yI_X2_check, sl_X2_check, iN_X2, cd_X2_check⟩, rfl, by decide, by decide, by decide +kernel⟩
theorem M_X2_139 : MLK RX2 139 yX1_isSameAs cX1_isSameAs 3 (some .boolean) 1 := ⟨⟨mL_X2_139, yI_X1_isSameAs, sl_X1_isSameAs, iN_X1, cd_X1_isSameAs⟩, rfl, by decide, by decide, by decide +kernel⟩
theorem M_L_57 : MLK RL 57 yX2_witness cX2_witness 2 (some .int) 0 := ⟨⟨mL_L_57, yI_X2_witness, sl_X2_witness, iN_X2, cd_X2_witness⟩, rfl, by decide, by decide, by decide +kernel⟩
theorem M_X2_148 : MLK RX2 148 yX1_leastMonomialOfFewestWires cX1_leastMonomialOfFewestWires 4 (some .int) 0 := ⟨⟨mL_X2_148, yI_X1_leastMonomialOfFewestWires, sl_X1_leastMonomialOfFewestWires, iN_X1, cd_X1_leastMonomialOfFewestWires⟩, rfl, by decide, by decide, by decide +kernel⟩
theorem M_X1_44 : MSK RX1 44 yJ6_bitCount_0f7a4 cJ6_bitCount_0f7a4 1 (some .int) 1 := ⟨⟨mL_X1_44, yS_J6_bitCount_0f7a4, iN_J6, cd_J6_bitCount_0f7a4⟩, by decide, by decide, by decide +kernel⟩
theorem F_X3_41 : FLD RX3 41 3 0 := ⟨⟨rfl, Nat.le_of_ble_eq_true rfl, fL_X3_41, rfl, uw_3⟩, tyX3_ok, nmX3⟩
theorem F_X3_45 : FLD RX3 45 3 1 := ⟨⟨rfl, Nat.le_of_ble_eq_true rfl, fL_X3_45, rfl, uw_3⟩, tyX3_ok, nmX3⟩
theorem F_X3_7 : FLD RX3 7 3 2 := ⟨⟨rfl, Nat.le_of_ble_eq_true rfl, fL_X3_7, rfl, uw_3⟩, tyX3_ok, nmX3⟩
theorem F_X3_13 : FLD RX3 13 3 3 := ⟨⟨rfl, Nat.le_of_ble_eq_true rfl, fL_X3_13, rfl, uw_3⟩, tyX3_ok, nmX3⟩
theorem F_X3_16 : FLD RX3 16 3 4 := ⟨⟨rfl, Nat.le_of_ble_eq_true rfl, fL_X3_16, rfl, uw_3⟩, tyX3_ok, nmX3⟩
theorem F_X3_19 : FLD RX3 19 3 5 := ⟨⟨rfl, Nat.le_of_ble_eq_true rfl, fL_X3_19, rfl, uw_3⟩, tyX3_ok, nmX3⟩
theorem F_X3_80 : FLD RX3 80 3 6 := ⟨⟨rfl, Nat.le_of_ble_eq_true rfl, fL_X3_80, rfl, uw_3⟩, tyX3_ok, nmX3⟩
theorem F_X3_22 : FLD RX3 22 3 7 := ⟨⟨rfl, Nat.le_of_ble_eq_true rfl, fL_X3_22, rfl, uw_3⟩, tyX3_ok, nmX3⟩
theorem F_X3_52 : FLD RX3 52 3 8 := ⟨⟨rfl, Nat.le_of_ble_eq_true rfl, fL_X3_52, rfl, uw_3⟩, tyX3_ok, nmX3⟩
theorem F_X3_26 : FLD RX3 26 3 9 := ⟨⟨rfl, Nat.le_of_ble_eq_true rfl, fL_X3_26, rfl, uw_3⟩, tyX3_ok, nmX3⟩
theorem F_X3_29 : FLD RX3 29 3 10 := ⟨⟨rfl, Nat.le_of_ble_eq_true rfl, fL_X3_29, rfl, uw_3⟩, tyX3_ok, nmX3⟩
theorem F_X3_32 : FLD RX3 32 3 11 := ⟨⟨rfl, Nat.le_of_ble_eq_true rfl, fL_X3_32, rfl, uw_3⟩, tyX3_ok, nmX3⟩
theorem F_X3_35 : FLD RX3 35 3 12 := ⟨⟨rfl, Nat.le_of_ble_eq_true rfl, fL_X3_35, rfl, uw_3⟩, tyX3_ok, nmX3⟩
theorem F_X3_38 : FLD RX3 38 3 13 := ⟨⟨rfl, Nat.le_of_ble_eq_true rfl, fL_X3_38, rfl, uw_3⟩, tyX3_ok, nmX3⟩
theorem M_L_72 : MLK RL 72 yX3_thrown cX3_thrown 1 (some .int) 0 := ⟨⟨mL_L_72, yI_X3_thrown, sl_X3_thrown, iN_X3, cd_X3_thrown⟩, rfl, by decide, by decide, by decide +kernel⟩
theorem M_L_71 : MLK RL 71 yX3_input cX3_input 1 (some .int) 0 := ⟨⟨mL_L_71, yI_X3_input, sl_X3_input, iN_X3, cd_X3_input⟩, rfl, by decide, by decide, by decide +kernel⟩
theorem M_L_78 : MLK RL 78 yX3_gate cX3_gate 6 (some .int) 4 := ⟨⟨mL_L_78, yI_X3_gate, sl_X3_gate, iN_X3, cd_X3_gate⟩, rfl, by decide, by decide, by decide +kernel⟩
theorem M_X3_48 : MSK RX3 48 yX3_within cX3_within 3 (some .boolean) 3 := ⟨⟨mL_X3_48, yS_X3_within, iN_X3, cd_X3_within⟩, by decide, by decide, by decide +kernel⟩
theorem M_X3_55 : MLK RX3 55 yX3_isLiteral cX3_isLiteral 2 (some .boolean) 1 := ⟨⟨mL_X3_55, yI_X3_isLiteral, sl_X3_isLiteral, iN_X3, cd_X3_isLiteral⟩, rfl, by decide, by decide, by decide +kernel⟩
theorem M_L_82 : MLK RL 82 yX3_wires cX3_wires 1 (some .int) 0 := ⟨⟨mL_L_82, yI_X3_wires, sl_X3_wires, iN_X3, cd_X3_wires⟩, rfl, by decide, by decide, by decide +kernel⟩
theorem M_L_90 : MLK RL 90 yX3_simulate cX3_simulate 2 (some .int) 1 := ⟨⟨mL_L_90, yI_X3_simulate, sl_X3_simulate, iN_X3, cd_X3_simulate⟩, rfl, by decide, by decide, by decide +kernel⟩
theorem M_X3_69 : MLK RX3 69 yX3_areInputs cX3_areInputs 4 (some .boolean) 1 := ⟨⟨mL_X3_69, yI_X3_areInputs, sl_X3_areInputs, iN_X3, cd_X3_areInputs⟩, rfl, by decide, by decide, by decide +kernel⟩
theorem M_X3_63 : MLK RX3 63 yX3_isSet cX3_isSet 2 (some .boolean) 1 := ⟨⟨mL_X3_63, yI_X3_isSet, sl_X3_isSet, iN_X3, cd_X3_isSet⟩, rfl, by decide, by decide, by decide +kernel⟩
theorem M_X3_72 : MLK RX3 72 yX3_settled cX3_settled 4 (some .int) 1 := ⟨⟨mL_X3_72, yI_X3_settled, sl_X3_settled, iN_X3, cd_X3_settled⟩, rfl, by decide, by decide, by decide +kernel⟩
theorem M_X3_66 : MLK RX3 66 yX3_made cX3_made 6 (some .int) 2 := ⟨⟨mL_X3_66, yI_X3_made, sl_X3_made, iN_X3, cd_X3_made⟩, rfl, by decide, by decide, by decide +kernel⟩
theorem M_X3_59 : MSK RX3 59 yX3_literal cX3_literal 3 (some .int) 2 := ⟨⟨mL_X3_59, yS_X3_literal, iN_X3, cd_X3_literal⟩, by decide, by decide, by decide +kernel⟩
theorem M_L_93 : MLK RL 93 yX3_evaluate cX3_evaluate 2 (some .long) 1 := ⟨⟨mL_L_93, yI_X3_evaluate, sl_X3_evaluate, iN_X3, cd_X3_evaluate⟩, rfl, by decide, by decide, by decide +kernel⟩
theorem M_X3_76 : MLK RX3 76 yX3_claimed cX3_claimed 5 (some .long) 1 := ⟨⟨mL_X3_76, yI_X3_claimed, sl_X3_claimed, iN_X3, cd_X3_claimed⟩, rfl, by decide, by decide, by decide +kernel⟩
theorem M_L_86 : MLK RL 86 yX3_add cX3_add 3 (some .int) 2 := ⟨⟨mL_L_86, yI_X3_add, sl_X3_add, iN_X3, cd_X3_add⟩, rfl, by decide, by decide, by decide +kernel⟩
theorem M_L_96 : MLK RL 96 yX3_prove cX3_prove 1 (some .int) 0 := ⟨⟨mL_L_96, yI_X3_prove, sl_X3_prove, iN_X3, cd_X3_prove⟩, rfl, by decide, by decide, by decide +kernel⟩
theorem M_X3_106 : MLK RX3 106 yX3_derived cX3_derived 3 (some .boolean) 1 := ⟨⟨mL_X3_106, yI_X3_derived, sl_X3_derived, iN_X3, cd_X3_derived⟩, rfl, by decide, by decide, by decide +kernel⟩
theorem M_X3_93 : MLK RX3 93 yX3_gates cX3_gates 3 (some .int) 0 := ⟨⟨mL_X3_93, yI_X3_gates, sl_X3_gates, iN_X3, cd_X3_gates⟩, rfl, by decide, by decide, by decide +kernel⟩
theorem M_X3_96 : MLK RX3 96 yX3_gateWire cX3_gateWire 4 (some .int) 1 := ⟨⟨mL_X3_96, yI_X3_gateWire, sl_X3_gateWire, iN_X3, cd_X3_gateWire⟩, rfl, by decide, by decide, by decide +kernel⟩
theorem M_X3_99 : MLK RX3 99 yX3_eliminated cX3_eliminated 3 (some .int) 1 := ⟨⟨mL_X3_99, yI_X3_eliminated, sl_X3_eliminated, iN_X3, cd_X3_eliminated⟩, rfl, by decide, by decide, by decide +kernel⟩
theorem M_X3_86 : MLK RX3 86 yX3_redirected cX3_redirected 4 (some .int) 2 := ⟨⟨mL_X3_86, yI_X3_redirected, sl_X3_redirected, iN_X3, cd_X3_redirected⟩, rfl, by decide, by decide, by decide +kernel⟩
theorem M_X3_89 : MLK RX3 89 yX3_coefficients cX3_coefficients 4 (some .int) 0 := ⟨⟨mL_X3_89, yI_X3_coefficients, sl_X3_coefficients, iN_X3, cd_X3_coefficients⟩, rfl, by decide, by decide, by decide +kernel⟩
theorem M_X3_102 : MLK RX3 102 yX3_keep cX3_keep 3 none 1 := ⟨⟨mL_X3_102, yI_X3_keep, sl_X3_keep, iN_X3, cd_X3_keep⟩, rfl, by decide, by decide, by decide +kernel⟩
theorem M_L_100 : MLK RL 100 yX3_lines cX3_lines 1 (some .int) 0 := ⟨⟨mL_L_100, yI_X3_lines, sl_X3_lines, iN_X3, cd_X3_lines⟩, rfl, by decide, by decide, by decide +kernel⟩
theorem M_L_103 : MLK RL 103 yX3_size cX3_size 2 (some .int) 1 := ⟨⟨mL_L_103, yI_X3_size, sl_X3_size, iN_X3, cd_X3_size⟩, rfl, by decide, by decide, by decide +kernel⟩
theorem M_X3_110 : MLK RX3 110 yX3_lack cX3_lack 2 (some .int) 1 := ⟨⟨mL_X3_110, yI_X3_lack, sl_X3_lack, iN_X3, cd_X3_lack⟩, rfl, by decide, by decide, by decide +kernel⟩
theorem M_L_106 : MLK RL 106 yX3_monomial cX3_monomial 5 (some .int) 2 := ⟨⟨mL_L_106, yI_X3_monomial, sl_X3_monomial, iN_X3, cd_X3_monomial⟩, rfl, by decide, by decide, by decide +kernel⟩
theorem M_X3_83 : MLK RX3 83 yX3_find cX3_find 4 (some .int) 2 := ⟨⟨mL_X3_83, yI_X3_find, sl_X3_find, iN_X3, cd_X3_find⟩, rfl, by decide, by decide, by decide +kernel⟩
theorem M_L_109 : MLK RL 109 yX3_coefficient cX3_coefficient 3 (some .long) 2 := ⟨⟨mL_L_109, yI_X3_coefficient, sl_X3_coefficient, iN_X3, cd_X3_coefficient⟩, rfl, by decide, by decide, by decide +kernel⟩
theorem M_X3_113 : MLK RX3 113 yX3_has cX3_has 4 (some .long) 2 := ⟨⟨mL_X3_113, yI_X3_has, sl_X3_has, iN_X3, cd_X3_has⟩, rfl, by decide, by decide, by decide +kernel⟩
theorem M_L_113 : MLK RL 113 yX3_spoil cX3_spoil 7 (some .long) 3 := ⟨⟨mL_L_113, yI_X3_spoil, sl_X3_spoil, iN_X3, cd_X3_spoil⟩, rfl, by decide, by decide, by decide +kernel⟩
theorem M_L_116 : MLK RL 116 yX3_check cX3_check 2 (some .int) 0 := ⟨⟨mL_L_116, yI_X3_check, sl_X3_check, iN_X3, cd_X3_check⟩, rfl, by decide, by decide, by decide +kernel⟩
theorem M_X3_120 : MLK RX3 120 yX3_right cX3_right 4 (some .boolean) 1 := ⟨⟨mL_X3_120, yI_X3_right, sl_X3_right, iN_X3, cd_X3_right⟩, rfl, by decide, by decide, by decide +kernel⟩
theorem M_X3_117 : MLK RX3 117 yX3_values cX3_values 4 none 1 := ⟨⟨mL_X3_117, yI_X3_values, sl_X3_values, iN_X3, cd_X3_values⟩, rfl, by decide, by decide, by decide +kernel⟩
theorem M_L_119 : MLK RL 119 yX3_witness cX3_witness 3 (some .int) 0 := ⟨⟨mL_L_119, yI_X3_witness, sl_X3_witness, iN_X3, cd_X3_witness⟩, rfl, by decide, by decide, by decide +kernel⟩
theorem M_X3_123 : MSK RX3 123 yX3_many cX3_many 3 (some .int) 1 := ⟨⟨mL_X3_123, yS_X3_many, iN_X3, cd_X3_many⟩, by decide, by decide, by decide +kernel⟩
theorem M_L_123 : MLK RL 123 yX3_clear cX3_clear 3 (some .int) 0 := ⟨⟨mL_L_123, yI_X3_clear, sl_X3_clear, iN_X3, cd_X3_clear⟩, rfl, by decide, by decide, by decide +kernel⟩
set_option maxRecDepth 100000 in
theorem T_52_54_56 : THR "java/lang/IllegalArgumentException" 52 54 56 "no such kind or literal" := ⟨⟨by decide +kernel, by decide +kernel⟩, kL_X2_52, iN__java_lang_IllegalArgumentException, by simp [strs], by decide +kernel, by decide +kernel⟩
set_option maxRecDepth 100000 in
theorem T_52_66_56 : THR "java/lang/IllegalArgumentException" 52 66 56 "no such set" := ⟨⟨by decide +kernel, by decide +kernel⟩, kL_X2_52, iN__java_lang_IllegalArgumentException, by simp [strs], by decide +kernel, by decide +kernel⟩
set_option maxRecDepth 100000 in
theorem T_71_73_75 : THR "java/lang/IllegalStateException" 71 73 75 "40 additions are there" := ⟨⟨by decide +kernel, by decide +kernel⟩, kL_X2_71, iN__java_lang_IllegalStateException, by simp [strs], by decide +kernel, by decide +kernel⟩
set_option maxRecDepth 100000 in
theorem T_108_110_112 : THR "java/lang/ArithmeticException" 108 110 112 "a line would have more than 40 monomials" := ⟨⟨by decide +kernel, by decide +kernel⟩, kL_X2_108, iN__java_lang_ArithmeticException, by simp [strs], by decide +kernel, by decide +kernel⟩
set_option maxRecDepth 100000 in
theorem T_120_122_124 : THR "java/lang/IndexOutOfBoundsException" 120 122 124 "no such monomial" := ⟨⟨by decide +kernel, by decide +kernel⟩, kL_X2_120, iN__java_lang_IndexOutOfBoundsException, by simp [strs], by decide +kernel, by decide +kernel⟩
set_option maxRecDepth 100000 in
theorem T_108_134_112 : THR "java/lang/ArithmeticException" 108 134 112 "the line would have more than 40 monomials" := ⟨⟨by decide +kernel, by decide +kernel⟩, kL_X2_108, iN__java_lang_ArithmeticException, by simp [strs], by decide +kernel, by decide +kernel⟩
set_option maxRecDepth 100000 in
theorem T_71_154_75 : THR "java/lang/IllegalStateException" 71 154 75 "nine wires are there" := ⟨⟨by decide +kernel, by decide +kernel⟩, kL_X2_71, iN__java_lang_IllegalStateException, by simp [strs], by decide +kernel, by decide +kernel⟩
set_option maxRecDepth 100000 in
theorem T_52_156_56 : THR "java/lang/IllegalArgumentException" 52 156 56 "not a set of inputs" := ⟨⟨by decide +kernel, by decide +kernel⟩, kL_X2_52, iN__java_lang_IllegalArgumentException, by simp [strs], by decide +kernel, by decide +kernel⟩
set_option maxRecDepth 100000 in
theorem T_71_158_75 : THR "java/lang/IllegalStateException" 71 158 75 "there is no proof" := ⟨⟨by decide +kernel, by decide +kernel⟩, kL_X2_71, iN__java_lang_IllegalStateException, by simp [strs], by decide +kernel, by decide +kernel⟩
set_option maxRecDepth 100000 in
theorem T_120_66_124 : THR "java/lang/IndexOutOfBoundsException" 120 66 124 "no such set" := ⟨⟨by decide +kernel, by decide +kernel⟩, kL_X2_120, iN__java_lang_IndexOutOfBoundsException, by simp [strs], by decide +kernel, by decide +kernel⟩
set_option maxRecDepth 100000 in
theorem T_120_160_124 : THR "java/lang/IndexOutOfBoundsException" 120 160 124 "no such line" := ⟨⟨by decide +kernel, by decide +kernel⟩, kL_X2_120, iN__java_lang_IndexOutOfBoundsException, by simp [strs], by decide +kernel, by decide +kernel⟩
end
section
def bI (b : Bool) : Int32 := match b with
  | true => nI 1
  | false => nI 0
theorem nar_b (b : Bool) : narrow .boolean (.int (bI b)) = .int (bI b) := by cases b <;> rfl
theorem len_of {n k : Nat} (h : Nat.ble n k = true) : n ≤ k := Nat.le_of_ble_eq_true h
theorem nI_s (i : Nat) : nI i + cI 1 = nI (i + 1) := nI_add i 1
theorem sI {x y : Int32} (h : x = y) : some (Value.int x) = some (Value.int y) := by rw [h]
theorem sJ {x y : Int64} (h : x = y) : some (Value.long x) = some (Value.long y) := by rw [h]
theorem sR {x y : Nat} (h : x = y) : some (Value.ref x) = some (Value.ref y) := by rw [h]
def lvOK (lv lv' : List (Nat × Value)) : Prop := match lv' with
  | [] => True
  | q :: r => lk lv q.1 = some q.2 ∧ lvOK lv r
theorem lk_mem {i : Nat} {v : Value} : ∀ {lv : List (Nat × Value)}, lk lv i = some v → (i, v) ∈ lv
  | [], h => by simp [lk] at h
  | (j, w) :: r, h => by
    by_cases hb : Nat.beq j i = true
    · simp only [lk, hb] at h
      have hv : w = v := Option.some.inj h
      have hji : j = i := Nat.eq_of_beq_eq_true hb
      subst hji
      subst hv
      exact List.mem_cons_self
    · have hb2 : Nat.beq j i = false := by cases hx : Nat.beq j i with
        | true => exact absurd hx hb
        | false => rfl
      simp only [lk, hb2] at h
      exact List.mem_cons_of_mem _ (lk_mem (lv := r) h)
theorem lvOK_mem : ∀ {lv lv' : List (Nat × Value)}, lvOK lv lv' → ∀ q ∈ lv', q ∈ lv
  | _, [], _, _, h => by cases h
  | lv, q0 :: r, h, q, hq => by
    rcases List.mem_cons.mp hq with rfl | hq
    · exact lk_mem h.1
    · exact lvOK_mem h.2 q hq
def KF (ad : Nat → Nat) (L : List Nat) : Prop := (kinj ad L ∧ L.Nodup) ∧ ∀ k, k < 66 → k ∈ L
section
variable {p : Program} {l : Launch} {e : Env} {R : Room} {s : State} {m : MethodId} {args : Array Value} {below : List Frame} {meth : Method} {c : Code} {D : va_G} {dA ad sa : Nat → Nat} {L : List Nat} {A : Nat → Prop} {nL cells slots : Nat} {Q : State → Prop} {hp : Nat → KE} {own : String} {cc : ByteArray} {ret : Option FieldType} {tb : List (Nat × Instr × Nat)}

theorem g_lvs {pc : Nat} {lv lv' : List (Nat × Value)} {st : List Value} (k : G p l e R s m args below meth c D dA ad L A nL cells slots Q hp pc lv' st) (h : lvOK lv lv') : G p l e R s m args below meth c D dA ad L A nL cells slots Q hp pc lv st := g_lv (lvOK_mem h) k
theorem g_top {pc : Nat} {lv : List (Nat × Value)} {st : List Value} {x : Int32} (y : Int32) (h : x = y) (k : G p l e R s m args below meth c D dA ad L A nL cells slots Q hp pc lv (.int y :: st)) : G p l e R s m args below meth c D dA ad L A nL cells slots Q hp pc lv (.int x :: st) := by rw [h]; exact k
theorem g_topl {pc : Nat} {lv : List (Nat × Value)} {st : List Value} {x : Int64} (y : Int64) (h : x = y) (k : G p l e R s m args below meth c D dA ad L A nL cells slots Q hp pc lv (.long y :: st)) : G p l e R s m args below meth c D dA ad L A nL cells slots Q hp pc lv (.long x :: st) := by rw [h]; exact k
theorem g_loop {pc : Nat} {lv : List (Nat × Value)} {st : List Value} (i0 N : Nat) (hpf : Nat → (Nat → KE)) (lvf : Nat → List (Nat × Value)) (hi : i0 ≤ N) (h0 : hp = hpf i0) (l0 : lvOK lv (lvf i0)) (step : ∀ i, i0 ≤ i → i < N → G p l e R s m args below meth c D dA ad L A nL cells slots Q (hpf (i + 1)) pc (lvf (i + 1)) st → G p l e R s m args below meth c D dA ad L A nL cells slots Q (hpf i) pc (lvf i) st) (exit : G p l e R s m args below meth c D dA ad L A nL cells slots Q (hpf N) pc (lvf N) st) : G p l e R s m args below meth c D dA ad L A nL cells slots Q hp pc lv st := by
  have key : ∀ n i, i0 ≤ i → i + n = N → G p l e R s m args below meth c D dA ad L A nL cells slots Q (hpf i) pc (lvf i) st := by
    intro n
    induction n with
    | zero => intro i h1 h2; have : i = N := by omega
              subst this; exact exit
    | succ n ih => intro i h1 h2; exact step i h1 (by omega) (ih (i + 1) (by omega) (by omega))
  subst h0
  exact g_lvs (key (N - i0) i0 (Nat.le_refl _) (by omega)) l0
/-- a loop whose counter falls -/
theorem g_loopD {pc : Nat} {lv : List (Nat × Value)} {st : List Value} (N : Nat) (hpf : Nat → (Nat → KE)) (lvf : Nat → List (Nat × Value)) (h0 : hp = hpf N) (l0 : lvOK lv (lvf N)) (step : ∀ i, i < N → G p l e R s m args below meth c D dA ad L A nL cells slots Q (hpf i) pc (lvf i) st → G p l e R s m args below meth c D dA ad L A nL cells slots Q (hpf (i + 1)) pc (lvf (i + 1)) st) (exit : G p l e R s m args below meth c D dA ad L A nL cells slots Q (hpf 0) pc (lvf 0) st) : G p l e R s m args below meth c D dA ad L A nL cells slots Q hp pc lv st := by
  have key : ∀ i, i ≤ N → G p l e R s m args below meth c D dA ad L A nL cells slots Q (hpf i) pc (lvf i) st := by
    intro i
    induction i with
    | zero => intro _; exact exit
    | succ i ih => intro h; exact step i (by omega) (ih (by omega))
  subst h0
  exact g_lvs (key N (Nat.le_refl _)) l0
theorem g_ldcw (hC : CX p s m args meth c own cc nL ret tb D dA ad L A) {pc nx idx : Nat} {v : Int32} {lv : List (Nat × Value)} {st : List Value} (hf : fd tb pc = some (.ldc_w idx, nx)) (hc : Cond.constant own idx v ∈ WW) (k : G p l e R s m args below meth c D dA ad L A nL cells slots Q hp nx lv (.int v :: st)) : G p l e R s m args below meth c D dA ad L A nL cells slots Q hp pc lv st := by
  obtain ⟨⟨hx, hb, hml, ho, hts⟩, -, -, htb, -⟩ := hC
  obtain ⟨n, hd, hnx, hn⟩ := fd_ok htb hf
  obtain rfl : n = 3 := hn.resolve_left (by simp [ilen])
  subst hnx
  exact fun H locs ls hP hS hl => lv_ldcw hx hb ho (hts _ hc) hd (k H locs ls hP hS hl)
theorem g_copyl (hC : CX p s m args meth c own cc nL ret tb D dA ad L A) {pc nx idx k0 k1 : Nat} {n0 : Nat} {f g : Nat → Int64} {lv : List (Nat × Value)} {st : List Value} (hf : fd tb pc = some (.invokestatic idx, nx)) (hlink : Cond.methodLink own idx arraycopyName ∈ WW) (hk0 : k0 ∈ L) (hk1 : k1 ∈ L) (hh0 : hp k0 = kJ n0 f) (hh1 : hp k1 = kJ n0 g) (hn0 : n0 < 2 ^ 31) {z : Int32} (hz : z = nI n0) {y1 y2 : Int32} (hy1 : y1 = nI 0) (hy2 : y2 = nI 0) (hfr : 1 ≤ R.frames) (hlo : (st.map fun v => v.category).sum + (nativeFrameWords "java/lang/System" "arraycopy" 5 + 11) ≤ R.locals)
    (kk : G p l e R s m args below meth c D dA ad L A nL cells slots Q (va_up hp k1 (kJ n0 (va_cpy f g 0 0 n0))) nx lv st) : G p l e R s m args below meth c D dA ad L A nL cells slots Q hp pc lv (.int z :: .int y1 :: .ref k1 :: .int y2 :: .ref k0 :: st) := by
  obtain ⟨⟨hx, hb, hml, ho, hts⟩, -, -, htb, hK, hj1, hnd, hA, -⟩ := hC
  obtain ⟨n9, hd, hnx, hn9⟩ := fd_ok htb hf
  obtain rfl : n9 = 3 := hn9.resolve_left (by simp [ilen])
  subst hnx
  subst hz hy1 hy2
  intro H locs ls hP hS hl
  obtain ⟨i0, hi0⟩ := kw_get (dA := dA) (ad := ad) (hp := hp) hk0
  obtain ⟨i1, hi1⟩ := kw_get (dA := dA) (ad := ad) (hp := hp) hk1
  have hi9 := hi1
  rw [hh0] at hi0
  rw [hh1] at hi1
  have c0 : (nI 0).toNatClampNeg = 0 := nI_clamp (by decide)
  have c1 : (nI n0).toNatClampNeg = n0 := nI_clamp hn0
  refine va_copyl hx hb (hml.trans hl.1.symm) ho (hts _ hlink) (hts _ nA_arraycopy) (hts _ yS_arraycopy) (hts _ iN_J10) hK hP (kw_D hj1 hnd hA) hS i0 i1 1 1 hi0 hi1 rfl rfl rfl (nI_pos (by decide)) (nI_pos (by decide)) (nI_pos hn0) (by rw [c0, c1]; omega) (by rw [c0, c1]; omega) (fun i _ => rfl) hfr (by rw [em_cats]; exact hlo) hd (fun H1 locs1 hP1 _ hS1 => ?_)
  rw [c0, c1] at hP1
  have e1 : ((.inl (dA 1, n0, .inr (.inl (va_cpy f g 0 0 n0)))) : va_E) = emE dA ad (kJ n0 (va_cpy f g 0 0 n0)) := rfl
  rw [e1, kw_set hj1 hnd hk1 hi9] at hP1
  exact kk H1 locs1 ls hP1 hS1 hl
end
/-! how many numbers of a row aren't 0 -/
def cntN (f : Nat → Int64) : Nat → Nat
  | 0 => 0
  | n + 1 => cntN f n + (if f n = 0 then 0 else 1)
def cnt (f : Nat → Int64) : Nat := cntN f 512
theorem cntN_le (f : Nat → Int64) : ∀ n, cntN f n ≤ n
  | 0 => Nat.le_refl _
  | n + 1 => by
    have := cntN_le f n
    simp only [cntN]
    split <;> omega
theorem cnt_le (f : Nat → Int64) : cnt f ≤ 512 := cntN_le f 512
theorem cntN_congr {f g : Nat → Int64} : ∀ {n : Nat}, (∀ i, i < n → f i = g i) → cntN f n = cntN g n
  | 0, _ => rfl
  | n + 1, h => by simp only [cntN]; rw [cntN_congr (n := n) (fun i hi => h i (by omega)), h n (by omega)]
theorem cntN_up {f : Nat → Int64} {k : Nat} {v : Int64} : ∀ {n : Nat}, k < n → cntN (va_up f k v) n + (if f k = 0 then 0 else 1) = cntN f n + (if v = 0 then 0 else 1)
  | 0, h => by omega
  | n + 1, h => by
    by_cases hk : k = n
    · subst hk
      simp only [cntN, va_up_self]
      rw [cntN_congr (f := va_up f k v) (g := f) (fun i hi => va_up_ne _ _ (by omega))]
      omega
    · have ih := cntN_up (f := f) (v := v) (n := n) (k := k) (by omega)
      simp only [cntN]
      rw [va_up_ne _ _ (Ne.symm hk)]
      omega
theorem cnt_up {f : Nat → Int64} {k : Nat} {v : Int64} (h : k < 512) : cnt (va_up f k v) + (if f k = 0 then 0 else 1) = cnt f + (if v = 0 then 0 else 1) := cntN_up h
theorem cnt_pos {f : Nat → Int64} {k : Nat} (h : k < 512) (hk : ¬ f k = 0) : 0 < cnt f := by
  have := cnt_up (f := f) (v := 0) h
  rw [if_neg hk, if_pos rfl] at this
  omega
theorem cntN_zero : ∀ n, cntN (fun _ => 0) n = 0
  | 0 => rfl
  | n + 1 => by simp only [cntN]; rw [cntN_zero n]; rfl
/-! polynomials and gates in the world -/
def PolyAt (hp : Nat → KE) (q : Nat) (row : Nat → Int64) : Prop := hp q = kO 1 [.ref (q + 1), .int (nI (cnt row))] ∧ hp (q + 1) = kJ 512 row
def setP (hp : Nat → KE) (q : Nat) (row : Nat → Int64) : Nat → KE := va_up (va_up hp (q + 1) (kJ 512 row)) q (kO 1 [.ref (q + 1), .int (nI (cnt row))])
theorem setP_at (hp : Nat → KE) (q : Nat) (row : Nat → Int64) : PolyAt (setP hp q row) q row := ⟨va_up_self _ _ _, by unfold setP; rw [va_up_ne _ _ (by omega), va_up_self]⟩
theorem setP_ne {hp : Nat → KE} {q k : Nat} {row : Nat → Int64} (h1 : k ≠ q) (h2 : k ≠ q + 1) : setP hp q row k = hp k := by unfold setP; rw [va_up_ne _ _ h1, va_up_ne _ _ h2]
theorem setP_setP {hp : Nat → KE} {q : Nat} {r1 r2 : Nat → Int64} : setP (setP hp q r1) q r2 = setP hp q r2 := by
  funext k
  by_cases h1 : k = q
  · subst h1; rw [(setP_at _ _ _).1, (setP_at _ _ _).1]
  · by_cases h2 : k = q + 1
    · subst h2; rw [(setP_at _ _ _).2, (setP_at _ _ _).2]
    · rw [setP_ne h1 h2, setP_ne h1 h2, setP_ne h1 h2]
theorem setP_self {hp : Nat → KE} {q : Nat} {row : Nat → Int64} (h : PolyAt hp q row) : setP hp q row = hp := by
  funext k
  by_cases h1 : k = q
  · subst h1; rw [(setP_at _ _ _).1, h.1]
  · by_cases h2 : k = q + 1
    · subst h2; rw [(setP_at _ _ _).2, h.2]
    · rw [setP_ne h1 h2]
theorem PolyAt.keep {hp : Nat → KE} {q q2 : Nat} {row r2 : Nat → Int64} (h : PolyAt hp q2 row) (h1 : q2 ≠ q) (h2 : q2 ≠ q + 1) (h3 : q2 + 1 ≠ q) : PolyAt (setP hp q r2) q2 row := ⟨(setP_ne h1 h2).trans h.1, (setP_ne h3 (by omega)).trans h.2⟩
def GateAt (hp : Nat → KE) (g : Nat) (kd a b c : Nat) (ts : Nat → Nat) (tn : Nat → Int64) : Prop := hp g = kO 0 [.int (nI kd), .int (nI a), .int (nI b), .int (nI c), .ref (g + 1), .ref (g + 2)] ∧ hp (g + 1) = kI 8 (fun t => nI (ts t)) ∧ hp (g + 2) = kJ 8 tn
theorem GateAt.keep {hp : Nat → KE} {g q : Nat} {kd a b c : Nat} {ts : Nat → Nat} {tn : Nat → Int64} {row : Nat → Int64} (h : GateAt hp g kd a b c ts tn) (h1 : g ≠ q) (h2 : g ≠ q + 1) (h3 : g + 1 ≠ q) (h4 : g + 2 ≠ q) (h5 : g + 1 ≠ q + 1): GateAt (setP hp q row) g kd a b c ts tn := ⟨(setP_ne h1 h2).trans h.1, (setP_ne h3 h5).trans h.2.1, (setP_ne h4 (by omega)).trans h.2.2⟩
end
section
theorem arrV_congr {cI : ClassId} {n : Nat} {F F2 : Nat → Value} (h : ∀ j, j < n → F j = F2 j) : arrV cI n F = arrV cI n F2 := by
  unfold arrV
  congr 1
  congr 1
  funext j
  exact h j.val j.isLt
/-- the same as far as an array goes -/
def KEq (x y : KE) : Prop := x = y ∨ (∃ (n : Nat) (f g : Nat → Int64), x = kJ n f ∧ y = kJ n g ∧ ∀ j, j < n → f j = g j) ∨ (∃ (n : Nat) (f g : Nat → Int32), x = kI n f ∧ y = kI n g ∧ ∀ j, j < n → f j = g j)
theorem KEq.rf {x : KE} : KEq x x := Or.inl rfl
theorem KEq.J {n : Nat} {f g : Nat → Int64} (h : ∀ j, j < n → f j = g j) : KEq (kJ n f) (kJ n g) := Or.inr (Or.inl ⟨n, f, g, rfl, rfl, h⟩)
theorem KEq.I {n : Nat} {f g : Nat → Int32} (h : ∀ j, j < n → f j = g j) : KEq (kI n f) (kI n g) := Or.inr (Or.inr ⟨n, f, g, rfl, rfl, h⟩)
theorem kw_ext {D : va_G} {dA ad : Nat → Nat} {L : List Nat} {hp hp' : Nat → KE} {H : Heap} (h : ∀ k, KEq (hp k) (hp' k)) (hP : va_P D kcl (kw dA ad L hp) H) : va_P D kcl (kw dA ad L hp') H := by
  intro i q hi
  obtain ⟨k, h1, rfl⟩ := kw_at hi
  have h2 := hP i (ad k, emE dA ad (hp k)) (by simp [kw, h1])
  rcases h k with e | ⟨n, f, g, e1, e2, e3⟩ | ⟨n, f, g, e1, e2, e3⟩
  · rw [← e]; exact h2
  · rw [e1] at h2
    rw [e2]
    have h3 : H[ad k]? = some (arrV (dA 1) n (fun j => .long (f j))) := h2
    show H[ad k]? = some (arrV (dA 1) n (fun j => .long (g j)))
    rw [h3, arrV_congr (fun j hj => by rw [e3 j hj])]
  · rw [e1] at h2
    rw [e2]
    have h3 : H[ad k]? = some (arrV (dA 0) n (fun j => .int (f j))) := h2
    show H[ad k]? = some (arrV (dA 0) n (fun j => .int (g j)))
    rw [h3, arrV_congr (fun j hj => by rw [e3 j hj])]
theorem cmp0 (x y : Int64) : lg_cmp x y = 0 ↔ x = y := by
  unfold lg_cmp
  constructor
  · intro h
    split at h
    · cases h
    · split at h
      · assumption
      · cases h
  · rintro rfl
    rw [if_neg (by simp [gt_iff_lt, Int64.lt_iff_toInt_lt]), if_pos rfl]
theorem cmpz (x : Int64) : lg_cmp x (Int64.ofNat ((0 : Fin 2) : Nat)) = 0 ↔ x = 0 := cmp0 x 0
section
variable {p : Program} {l : Launch} {e : Env} {R : Room} {s : State} {m : MethodId} {args : Array Value} {below : List Frame} {meth : Method} {c : Code} {D : va_G} {dA ad sa : Nat → Nat} {L : List Nat} {A : Nat → Prop} {nL cells slots : Nat} {Q : State → Prop} {hp : Nat → KE}
theorem g_hpx {hp' : Nat → KE} {pc : Nat} {lv : List (Nat × Value)} {st : List Value} (h : ∀ k, KEq (hp k) (hp' k)) (kk : G p l e R s m args below meth c D dA ad L A nL cells slots Q hp' pc lv st) : G p l e R s m args below meth c D dA ad L A nL cells slots Q hp pc lv st :=
  fun H locs ls hP hS hl => kk H locs ls (kw_ext h hP) hS hl
/-- a place that several ways lead to -/
theorem g_cut (hp1 : Nat → KE) (pc1 : Nat) (lv1 : List (Nat × Value)) (st1 : List Value) {pc : Nat} {lv : List (Nat × Value)} {st : List Value} (t : G p l e R s m args below meth c D dA ad L A nL cells slots Q hp1 pc1 lv1 st1) (k : G p l e R s m args below meth c D dA ad L A nL cells slots Q hp1 pc1 lv1 st1 → G p l e R s m args below meth c D dA ad L A nL cells slots Q hp pc lv st) : G p l e R s m args below meth c D dA ad L A nL cells slots Q hp pc lv st := k t
end
def ush (x n : Int32) : Int32 := (x.toUInt32 >>> (n.toUInt32 &&& Int32.toUInt32 31)).toInt32
def pop1 (x : Int32) : Int32 := x - (ush x (cI 1) &&& 1431655765)
def pop2 (x : Int32) : Int32 := (x &&& 858993459) + (ush x (cI 2) &&& 858993459)
def pop3 (x : Int32) : Int32 := (x + ush x (cI 4)) &&& 252645135
def pop4 (x : Int32) : Int32 := x + ush x (cI 8)
def pop5 (x : Int32) : Int32 := x + ush x (cI 16)
def popI (x : Int32) : Int32 := pop5 (pop4 (pop3 (pop2 (pop1 x)))) &&& cI 63
section
variable {l : Launch} {D : va_G} {dA ad sa : Nat → Nat} {L : List Nat}
theorem c_bitCount (hW : KF ad L) (hp : Nat → KE) (x : Int32) : KM l yJ6_bitCount_0f7a4 cJ6_bitCount_0f7a4 1 (some .int) (rmK 0 0 0) D dA ad sa L [.int x] hp (fun r hp' => r = some (.int (popI x)) ∧ hp' = hp) := by
  refine KM.of rfl ok_J6_bitCount_0f7a4 (len_of rfl) hW.1.1 hW.1.2 ?_
  intro p e s m args below meth c A hC hN
  refine g_run hC 4 rfl ?_
  refine g_ldcw hC rfl cN_J6_265 ?_
  refine g_run hC 4 rfl ?_
  refine g_ldcw hC rfl cN_J6_266 ?_
  refine g_run hC 4 rfl ?_
  refine g_ldcw hC rfl cN_J6_266 ?_
  refine g_run hC 8 rfl ?_
  refine g_ldcw hC rfl cN_J6_267 ?_
  refine g_run hC 17 rfl ?_
  exact g_iret hC rfl rfl ⟨rfl, rfl⟩ (Nat.le_refl _) (Nat.le_refl _)
theorem c_fill (hW : KF ad L) (hp : Nat → KE) (a n : Nat) (row : Nat → Int64) (v : Int64) (ha : a < 66) (hn : n < 2 ^ 31) (hh : hp a = kJ n row) : KM l yJ7_fill_d0a16 cJ7_fill_d0a16 5 none (rmK 0 0 0) D dA ad sa L [.ref a, .long v] hp (fun r hp' => r = none ∧ hp' = va_up hp a (kJ n (fun _ => v))) := by
  refine KM.of rfl ok_J7_fill_d0a16 (len_of rfl) hW.1.1 hW.1.2 ?_
  intro p e s m args below meth c A hC hN
  have haL := hW.2 a ha
  refine g_run hC 3 rfl ?_
  refine g_alen (t := 1) (ty := .long) hC rfl haL hh rfl ?_
  refine g_run hC 1 rfl ?_
  refine g_loop 0 n (fun i => va_up hp a (kJ n (fun j => if j < i then v else row j))) (fun i => [(0, .ref a), (1, .long v), (3, .int (nI i)), (4, .int (nI n))]) (Nat.zero_le _) ?_ ⟨rfl, rfl, rfl, rfl, trivial⟩ ?_ ?_
  · funext k
    by_cases hk : k = a
    · subst hk; rw [va_up_self, hh]; simp
    · rw [va_up_ne _ _ hk]
  · intro i _ hi ih
    refine g_run hC 2 rfl ?_
    refine g_icge (tgt := 22) hC rfl (by decide) (fun h => ?_) (fun _ => ?_)
    · exact absurd ((nI_leI hn (by omega)).mp h) (by omega)
    · refine g_run hC 3 rfl ?_
      refine g_lst hC i rfl haL (va_up_self _ _ _) rfl hi hn ?_
      refine g_run hC 2 rfl ?_
      refine g_hp ?_ (g_lvs ih ⟨rfl, rfl, sI (nI_s i), rfl, trivial⟩)
      funext k
      by_cases hk : k = a
      · subst hk
        rw [va_up_self, va_up_self]
        congr 3
        funext j
        by_cases hj : j = i
        · subst hj; rw [va_up_self, if_pos (by omega)]
        · rw [va_up_ne _ _ hj]
          by_cases h2 : j < i
          · rw [if_pos h2, if_pos (by omega)]
          · rw [if_neg h2, if_neg (by omega)]
      · rw [va_up_ne _ _ hk, va_up_ne _ _ hk, va_up_ne _ _ hk]
  · refine g_run hC 2 rfl ?_
    refine g_icge (tgt := 22) hC rfl (by decide) (fun _ => ?_) (fun h => absurd (Int32.le_refl _) h)
    refine g_hpx (hp' := va_up hp a (kJ n (fun _ => v))) ?_ (g_ret hC rfl rfl ⟨rfl, rfl⟩ (Nat.le_refl _) (Nat.le_refl _))
    intro k
    by_cases hk : k = a
    · subst hk; rw [va_up_self, va_up_self]; exact KEq.J (fun j hj => if_pos hj)
    · rw [va_up_ne _ _ hk, va_up_ne _ _ hk]; exact KEq.rf
theorem c_X1_numberOf (hW : KF ad L) (hp : Nat → KE) (q k : Nat) (row : Nat → Int64) (hq : q + 1 < 66) (hP : PolyAt hp q row) (hk : k < 512) : KM l yX1_numberOf cX1_numberOf 2 (some .long) (rmK 0 0 0) D dA ad sa L [.ref q, .int (nI k)] hp (fun r hp' => r = some (.long (row k)) ∧ hp' = hp) := by
  refine KM.of rfl ok_X1_numberOf (len_of rfl) hW.1.1 hW.1.2 ?_
  intro p e s m args below meth c A hC hN
  refine g_run hC 1 rfl ?_
  refine g_get hC rfl F_X1_9 (hW.2 q (by omega)) hP.1 rfl ?_
  refine g_run hC 1 rfl ?_
  refine g_lld hC k rfl (hW.2 (q + 1) hq) hP.2 rfl hk (by omega) ?_
  exact g_lret hC rfl rfl ⟨rfl, rfl⟩ (Nat.le_refl _) (Nat.le_refl _)
theorem c_X1_monomialCount (hW : KF ad L) (hp : Nat → KE) (q : Nat) (row : Nat → Int64) (hq : q + 1 < 66) (hP : PolyAt hp q row) : KM l yX1_monomialCount cX1_monomialCount 1 (some .int) (rmK 0 0 0) D dA ad sa L [.ref q] hp (fun r hp' => r = some (.int (nI (cnt row))) ∧ hp' = hp) := by
  refine KM.of rfl ok_X1_monomialCount (len_of rfl) hW.1.1 hW.1.2 ?_
  intro p e s m args below meth c A hC hN
  refine g_run hC 1 rfl ?_
  refine g_get hC rfl F_X1_21 (hW.2 q (by omega)) hP.1 rfl ?_
  exact g_iret hC rfl rfl ⟨rfl, rfl⟩ (Nat.le_refl _) (Nat.le_refl _)
theorem up_same {hp : Nat → KE} {q : Nat} {x : KE} (h : hp q = x) : va_up hp q x = hp := by
  funext k
  by_cases hk : k = q
  · subst hk; rw [va_up_self, h]
  · rw [va_up_ne _ _ hk]
theorem up_up {hp : Nat → KE} {q : Nat} {x y : KE} : va_up (va_up hp q x) q y = va_up hp q y := by
  funext k
  by_cases hk : k = q
  · subst hk; rw [va_up_self, va_up_self]
  · rw [va_up_ne _ _ hk, va_up_ne _ _ hk, va_up_ne _ _ hk]
theorem up_comm {hp : Nat → KE} {q q2 : Nat} {x y : KE} (h : q ≠ q2) : va_up (va_up hp q x) q2 y = va_up (va_up hp q2 y) q x := by
  funext k
  by_cases hk : k = q
  · subst hk; rw [va_up_self, va_up_ne _ _ h, va_up_self]
  · by_cases hk2 : k = q2
    · subst hk2; rw [va_up_self, va_up_ne _ _ hk, va_up_self]
    · rw [va_up_ne _ _ hk, va_up_ne _ _ hk2, va_up_ne _ _ hk2, va_up_ne _ _ hk]
theorem c_X1_increase (hW : KF ad L) (hp : Nat → KE) (q k : Nat) (row : Nat → Int64) (v : Int64) (hq : q + 1 < 66) (hP : PolyAt hp q row) (hk : k < 512) : KM l yX1_increase cX1_increase 8 (some .long) (rmK 0 0 0) D dA ad sa L [.ref q, .int (nI k), .long v] hp (fun r hp' => r = some (.long (row k + v)) ∧ hp' = setP hp q (va_up row k (row k + v))) := by
  refine KM.of rfl ok_X1_increase (len_of rfl) hW.1.1 hW.1.2 ?_
  intro p e s m args below meth c A hC hN
  have q1 := hW.2 q (by omega)
  have q2 := hW.2 (q + 1) hq
  have hcu := cnt_up (f := row) (k := k) (v := row k + v) hk
  refine g_run hC 1 rfl ?_
  refine g_get hC rfl F_X1_9 q1 hP.1 rfl ?_
  refine g_run hC 1 rfl ?_
  refine g_lld hC k rfl q2 hP.2 rfl hk (by omega) ?_
  refine g_run hC 8 rfl ?_
  refine g_cut (va_up hp q (kO 1 [.ref (q + 1), .int (nI (cnt (va_up row k (row k + v))))])) 65 [(0, .ref q), (1, .int (nI k)), (6, .long (row k + v))] [] ?_ (fun tail => ?_)
  · refine g_run hC 1 rfl ?_
    refine g_get hC rfl F_X1_9 q1 (va_up_self _ _ _) rfl ?_
    refine g_run hC 2 rfl ?_
    refine g_lst hC k rfl q2 (n := 512) (f := row) (by rw [va_up_ne _ _ (by omega)]; exact hP.2) rfl hk (by omega) ?_
    refine g_run hC 1 rfl ?_
    exact g_lret hC rfl rfl ⟨rfl, by unfold setP; rw [up_comm (by omega)]⟩ (Nat.le_refl _) (Nat.le_refl _)
  · refine g_ifne (tgt := 41) hC rfl (by decide) (fun h => ?_) (fun h => ?_)
    · have h1 : ¬ row k = 0 := fun z => h ((cmpz _).mpr z)
      rw [if_neg h1] at hcu
      refine g_run hC 3 rfl ?_
      refine g_ifeq (tgt := 65) hC rfl (by decide) (fun h2 => absurd ((cmpz _).mp h2) h1) (fun _ => ?_)
      refine g_run hC 3 rfl ?_
      refine g_ifne (tgt := 65) hC rfl (by decide) (fun h3 => ?_) (fun h3 => ?_)
      · have h4 : ¬ row k + v = 0 := fun z => h3 ((cmpz _).mpr z)
        rw [if_neg h4] at hcu
        refine g_hp ?_ (g_lvs tail ⟨rfl, rfl, rfl, trivial⟩)
        rw [show cnt (va_up row k (row k + v)) = cnt row by omega]
        exact (up_same hP.1).symm
      · have h4 : row k + v = 0 := (cmpz _).mp h3
        rw [if_pos h4] at hcu
        refine g_run hC 2 rfl ?_
        refine g_get hC rfl F_X1_21 q1 hP.1 rfl ?_
        refine g_run hC 2 rfl ?_
        refine g_putI hC rfl F_X1_21 q1 hP.1 (len_of rfl) rfl rfl ?_
        refine g_hp ?_ (g_lvs tail ⟨rfl, rfl, rfl, trivial⟩)
        have h5 := pk_sub (a := cnt row) (b := 1) (by omega)
        show va_up hp q (kO 1 [.ref (q + 1), .int (nI (cnt row) - nI 1)]) = _
        rw [h5, show cnt (va_up row k (row k + v)) = cnt row - 1 by omega]
    · have h1 : row k = 0 := (cmpz _).mp h
      rw [if_pos h1] at hcu
      refine g_run hC 3 rfl ?_
      refine g_ifeq (tgt := 41) hC rfl (by decide) (fun h2 => ?_) (fun h2 => ?_)
      · have h4 : row k + v = 0 := (cmpz _).mp h2
        rw [if_pos h4] at hcu
        refine g_run hC 3 rfl ?_
        refine g_ifeq (tgt := 65) hC rfl (by decide) (fun _ => ?_) (fun h3 => absurd ((cmpz _).mpr h1) h3)
        refine g_hp ?_ (g_lvs tail ⟨rfl, rfl, rfl, trivial⟩)
        rw [show cnt (va_up row k (row k + v)) = cnt row by omega]
        exact (up_same hP.1).symm
      · have h4 : ¬ row k + v = 0 := fun z => h2 ((cmpz _).mpr z)
        rw [if_neg h4] at hcu
        refine g_run hC 2 rfl ?_
        refine g_get hC rfl F_X1_21 q1 hP.1 rfl ?_
        refine g_run hC 2 rfl ?_
        refine g_putI hC rfl F_X1_21 q1 hP.1 (len_of rfl) rfl rfl ?_
        refine g_run hC 1 rfl ?_
        refine g_hp ?_ (g_lvs tail ⟨rfl, rfl, rfl, trivial⟩)
        show va_up hp q (kO 1 [.ref (q + 1), .int (nI (cnt row) + nI 1)]) = _
        rw [nI_add, show cnt (va_up row k (row k + v)) = cnt row + 1 by omega]
end
end
section
theorem nI_and (a b : Nat) : nI a &&& nI b = nI (a &&& b) := by
  apply Int32.toBitVec_inj.1
  show BitVec.ofNat 32 a &&& BitVec.ofNat 32 b = BitVec.ofNat 32 (a &&& b)
  apply BitVec.eq_of_getLsbD_eq
  intro i hi
  simp [hi]
theorem nI_or (a b : Nat) : nI a ||| nI b = nI (a ||| b) := by
  apply Int32.toBitVec_inj.1
  show BitVec.ofNat 32 a ||| BitVec.ofNat 32 b = BitVec.ofNat 32 (a ||| b)
  apply BitVec.eq_of_getLsbD_eq
  intro i hi
  simp [hi]
theorem nI_xor (a b : Nat) : nI a ^^^ nI b = nI (a ^^^ b) := by
  apply Int32.toBitVec_inj.1
  show BitVec.ofNat 32 a ^^^ BitVec.ofNat 32 b = BitVec.ofNat 32 (a ^^^ b)
  apply BitVec.eq_of_getLsbD_eq
  intro i hi
  simp [hi]
theorem nI_z {n : Nat} (h : n < 2 ^ 31) : nI n = 0 ↔ n = 0 := by
  have := nI_eq (a := n) (b := 0) h (by decide)
  rw [nI_0] at this
  exact this
theorem shl_1 : ∀ w : Nat, w < 31 → cI 1 <<< (nI w &&& 31) = nI (2 ^ w) := by decide +kernel
theorem shr_n : ∀ t : Nat, t < 8 → ∀ n : Nat, n < 3 → nI t >>> (nI n &&& 31) = nI (t / 2 ^ n) := by decide +kernel
def wbit (a : Nat) : Nat := if a < 2 then 0 else 2 ^ (a / 2 - 1)
def litF (a v : Nat) : Nat := if a < 2 then a else v ^^^ (a % 2)
def litW (a o : Nat) : Nat := litF a (if o &&& wbit a = 0 then 0 else 1)
def outc (kd x y z : Nat) : Nat := if kd = 0 then x &&& y else if kd = 1 then x ^^^ y else if kd = 2 then (if x = 1 then y else z) else if 2 ≤ x + y + z then 1 else 0
theorem bit_xor {v a : Nat} (h : v < 2) : v ^^^ (a % 2) < 2 := Nat.xor_lt_two_pow (n := 1) h (Nat.mod_lt _ (by decide))
theorem litF_lt {a v : Nat} (h : v < 2) : litF a v < 2 := by
  unfold litF
  split
  · assumption
  · exact bit_xor h
theorem outc_lt {kd x y z : Nat} (hx : x < 2) (hy : y < 2) (hz : z < 2) : outc kd x y z < 2 := by
  unfold outc
  split
  · exact Nat.lt_of_le_of_lt Nat.and_le_left hx
  · split
    · exact Nat.xor_lt_two_pow (n := 1) hx hy
    · split
      · split <;> assumption
      · split <;> decide
theorem wbit_lt {a : Nat} (h : a < 20) : wbit a < 512 := by
  have : ∀ a, a < 20 → wbit a < 512 := by decide
  exact this a h
section
variable {p : Program} {l : Launch} {e : Env} {R : Room} {s : State} {m : MethodId} {args : Array Value} {below : List Frame} {meth : Method} {c : Code} {D : va_G} {dA ad sa : Nat → Nat} {L : List Nat} {A : Nat → Prop} {nL cells slots : Nat} {Q : State → Prop} {hp : Nat → KE} {own : String} {cc : ByteArray} {ret : Option FieldType} {tb : List (Nat × Instr × Nat)}
theorem g_tsIn (hC : CX p s m args meth c own cc nL ret tb D dA ad L A) {pc nx tgt k : Nat} {d lo hi off : Int} {offs : Array Int} {lv : List (Nat × Value)} {st : List Value} (hf : fd tb pc = some (.tableswitch d lo hi offs, nx)) (hk : k < 2 ^ 31) (h1 : ¬ (k : Int) < lo) (h2 : ¬ hi < (k : Int)) (ho : offs[((k : Int) - lo).toNat]? = some off) (ht : (pc : Int) + off = (tgt : Int))
    (kk : G p l e R s m args below meth c D dA ad L A nL cells slots Q hp tgt lv st) : G p l e R s m args below meth c D dA ad L A nL cells slots Q hp pc lv (.int (nI k) :: st) := by
  obtain ⟨⟨hx, hb, -, -, -⟩, -, -, htb, -⟩ := hC
  obtain ⟨n, hd, -, -⟩ := fd_ok htb hf
  exact fun H locs ls hP hS hl => lv_tableIn hx hb hd (by rw [nI_toInt hk]; exact h1) (by rw [nI_toInt hk]; exact h2) (by rw [nI_toInt hk]; exact ho) ht (kk H locs ls hP hS hl)
theorem g_tsOut (hC : CX p s m args meth c own cc nL ret tb D dA ad L A) {pc nx tgt k : Nat} {d lo hi : Int} {offs : Array Int} {lv : List (Nat × Value)} {st : List Value} (hf : fd tb pc = some (.tableswitch d lo hi offs, nx)) (hk : k < 2 ^ 31) (h1 : (k : Int) < lo ∨ hi < (k : Int)) (ht : (pc : Int) + d = (tgt : Int))
    (kk : G p l e R s m args below meth c D dA ad L A nL cells slots Q hp tgt lv st) : G p l e R s m args below meth c D dA ad L A nL cells slots Q hp pc lv (.int (nI k) :: st) := by
  obtain ⟨⟨hx, hb, -, -, -⟩, -, -, htb, -⟩ := hC
  obtain ⟨n, hd, -, -⟩ := fd_ok htb hf
  exact fun H locs ls hP hS hl => lv_tableOut hx hb hd (by rw [nI_toInt hk]; exact h1) ht (kk H locs ls hP hS hl)
end
section
variable {l : Launch} {D : va_G} {dA ad sa : Nat → Nat} {L : List Nat}
theorem c_X2_bitOf (hW : KF ad L) (hp : Nat → KE) (w : Nat) (h0 : 0 < w) (h1 : w < 32) : KM l yX2_bitOf cX2_bitOf 1 (some .int) (rmK 0 0 0) D dA ad sa L [.int (nI w)] hp (fun r hp' => r = some (.int (nI (2 ^ (w - 1)))) ∧ hp' = hp) := by
  refine KM.of rfl ok_X2_bitOf (len_of rfl) hW.1.1 hW.1.2 ?_
  intro p e s m args below meth c A hC hN
  refine g_run hC 5 rfl ?_
  refine g_top (nI (2 ^ (w - 1))) ?_ (g_iret hC rfl rfl ⟨rfl, rfl⟩ (Nat.le_refl _) (Nat.le_refl _))
  show cI 1 <<< ((nI w - nI 1) &&& 31) = _
  rw [pk_sub (by omega), shl_1 _ (by omega)]
theorem c_X0_wireBit (hW : KF ad L) (hp : Nat → KE) (a : Nat) (h1 : a < 20) : KM l yX0_wireBit cX0_wireBit 1 (some .int) (rmK 1 0 0) D dA ad sa L [.int (nI a)] hp (fun r hp' => r = some (.int (nI (wbit a))) ∧ hp' = hp) := by
  refine KM.of rfl ok_X0_wireBit (len_of rfl) hW.1.1 hW.1.2 ?_
  intro p e s m args below meth c A hC hN
  refine g_run hC 2 rfl ?_
  refine g_icge (tgt := 9) hC rfl (by decide) (fun h => ?_) (fun h => ?_)
  · have h2 : 2 ≤ a := (nI_leI (a := 2) (b := a) (by decide) (by omega)).mp h
    refine g_run hC 2 rfl ?_
    refine g_idiv hC rfl (by decide) ?_
    refine g_top (nI (a / 2)) (pk_div (by omega) (by decide) (by decide)) ?_
    refine g_callN hC hN [.int (nI (a / 2))] (c_X2_bitOf hW hp (a / 2) (by omega) (by omega)) rfl M_X0_61 rfl (len_of rfl) (by decide) (by decide) ?_
    rintro r hp' ⟨rfl, rfl⟩
    exact g_iret hC rfl rfl ⟨by unfold wbit; rw [if_neg (by omega)], rfl⟩ (Nat.le_refl _) (Nat.le_refl _)
  · have h2 : ¬ 2 ≤ a := fun z => h ((nI_leI (a := 2) (b := a) (by decide) (by omega)).mpr z)
    refine g_run hC 2 rfl ?_
    exact g_iret hC rfl rfl ⟨by unfold wbit; rw [if_pos (by omega)]; rfl, rfl⟩ (Nat.le_refl _) (Nat.le_refl _)
theorem c_X0_literalFor (hW : KF ad L) (hp : Nat → KE) (a v : Nat) (h1 : a < 20) : KM l yX0_literalFor cX0_literalFor 2 (some .int) (rmK 0 0 0) D dA ad sa L [.int (nI a), .int (nI v)] hp (fun r hp' => r = some (.int (nI (litF a v))) ∧ hp' = hp) := by
  refine KM.of rfl ok_X0_literalFor (len_of rfl) hW.1.1 hW.1.2 ?_
  intro p e s m args below meth c A hC hN
  refine g_run hC 2 rfl ?_
  refine g_icge (tgt := 9) hC rfl (by decide) (fun h => ?_) (fun h => ?_)
  · have h2 : 2 ≤ a := (nI_leI (a := 2) (b := a) (by decide) (by omega)).mp h
    refine g_run hC 5 rfl ?_
    refine g_top (nI (litF a v)) ?_ (g_iret hC rfl rfl ⟨rfl, rfl⟩ (Nat.le_refl _) (Nat.le_refl _))
    show nI v ^^^ (nI a &&& nI 1) = _
    rw [nI_and, nI_xor, Nat.and_one_is_mod]
    unfold litF
    rw [if_neg (by omega)]
  · have h2 : ¬ 2 ≤ a := fun z => h ((nI_leI (a := 2) (b := a) (by decide) (by omega)).mpr z)
    refine g_run hC 2 rfl ?_
    exact g_iret hC rfl rfl ⟨by unfold litF; rw [if_pos (by omega)], rfl⟩ (Nat.le_refl _) (Nat.le_refl _)
theorem c_X0_literalWhere (hW : KF ad L) (hp : Nat → KE) (a o : Nat) (h1 : a < 20) (ho : o < 512) : KM l yX0_literalWhere cX0_literalWhere 2 (some .int) (rmK 2 0 0) D dA ad sa L [.int (nI a), .int (nI o)] hp (fun r hp' => r = some (.int (nI (litW a o))) ∧ hp' = hp) := by
  refine KM.of rfl ok_X0_literalWhere (len_of rfl) hW.1.1 hW.1.2 ?_
  intro p e s m args below meth c A hC hN
  refine g_run hC 3 rfl ?_
  refine g_callS hC hN [.int (nI a)] (c_X0_wireBit hW hp a h1) rfl M_X0_54 rfl (len_of rfl) (by decide) (by decide) ?_
  rintro r hp' ⟨rfl, rfl⟩
  refine g_run hC 1 rfl ?_
  refine g_top (nI (o &&& wbit a)) (nI_and _ _) ?_
  have hz := nI_z (n := o &&& wbit a) (Nat.lt_of_le_of_lt Nat.and_le_left (by omega))
  refine g_cut hp' 15 [] [.int (nI (if o &&& wbit a = 0 then 0 else 1)), .int (nI a)] ?_ (fun tail => ?_)
  · refine g_callS hC hN [.int (nI a), .int (nI _)] (c_X0_literalFor hW hp' a _ h1) rfl M_X0_58 rfl (len_of rfl) (by decide) (by decide) ?_
    rintro r hp2 ⟨rfl, rfl⟩
    exact g_iret hC rfl rfl ⟨rfl, rfl⟩ (Nat.le_refl _) (Nat.le_refl _)
  · refine g_ifne (tgt := 14) hC rfl (by decide) (fun h => ?_) (fun h => ?_)
    · refine g_run hC 1 rfl ?_
      refine g_cv rfl ?_ (g_lvs tail trivial)
      rw [if_neg (fun z => h (hz.mpr z))]; rfl
    · refine g_run hC 2 rfl ?_
      refine g_cv rfl ?_ (g_lvs tail trivial)
      rw [if_pos (hz.mp h)]; rfl
theorem c_X0_outcome (hW : KF ad L) (hp : Nat → KE) (g kd a b c0 : Nat) (ts : Nat → Nat) (tn : Nat → Int64) (x y z : Nat) (hg : g < 66) (hG : GateAt hp g kd a b c0 ts tn) (hk : kd < 4) (hx : x < 2) (hy : y < 2) (hz : z < 2) : KM l yX0_outcome cX0_outcome 4 (some .int) (rmK 0 0 0) D dA ad sa L [.ref g, .int (nI x), .int (nI y), .int (nI z)] hp (fun r hp' => r = some (.int (nI (outc kd x y z))) ∧ hp' = hp) := by
  refine KM.of rfl ok_X0_outcome (len_of rfl) hW.1.1 hW.1.2 ?_
  intro p e s m args below meth c A hC hN
  refine g_run hC 1 rfl ?_
  refine g_get hC rfl F_X0_19 (hW.2 g hg) hG.1 rfl ?_
  rcases (show kd = 0 ∨ kd = 1 ∨ kd = 2 ∨ kd = 3 by omega) with rfl | rfl | rfl | rfl
  · refine g_tsIn (tgt := 32) hC rfl (by decide) (by decide) (by decide) rfl (by decide) ?_
    refine g_run hC 3 rfl ?_
    exact g_top (nI (x &&& y)) (nI_and _ _) (g_iret hC rfl rfl ⟨rfl, rfl⟩ (Nat.le_refl _) (Nat.le_refl _))
  · refine g_tsIn (tgt := 36) hC rfl (by decide) (by decide) (by decide) rfl (by decide) ?_
    refine g_run hC 3 rfl ?_
    exact g_top (nI (x ^^^ y)) (nI_xor _ _) (g_iret hC rfl rfl ⟨rfl, rfl⟩ (Nat.le_refl _) (Nat.le_refl _))
  · refine g_tsIn (tgt := 40) hC rfl (by decide) (by decide) (by decide) rfl (by decide) ?_
    refine g_run hC 2 rfl ?_
    refine g_icne (tgt := 49) hC rfl (by decide) (fun h => ?_) (fun h => ?_)
    · refine g_run hC 1 rfl ?_
      refine g_iret hC rfl rfl ⟨?_, rfl⟩ (Nat.le_refl _) (Nat.le_refl _)
      have : ¬ x = 1 := fun q => h ((nI_eq (a := x) (b := 1) (by omega) (by decide)).mpr q)
      simp [outc, this]
    · refine g_run hC 2 rfl ?_
      refine g_iret hC rfl rfl ⟨?_, rfl⟩ (Nat.le_refl _) (Nat.le_refl _)
      have : x = 1 := (nI_eq (a := x) (b := 1) (by omega) (by decide)).mp h
      simp [outc, this]
  · refine g_tsOut (tgt := 51) hC rfl (by decide) (Or.inr (by decide)) (by decide) ?_
    refine g_run hC 6 rfl ?_
    have e1 : nI x + nI y + nI z = nI (x + y + z) := by rw [nI_add, nI_add]
    refine g_iclt (tgt := 64) hC rfl (by decide) (fun h => ?_) (fun h => ?_)
    · refine g_run hC 1 rfl ?_
      refine g_iret hC rfl rfl ⟨?_, rfl⟩ (Nat.le_refl _) (Nat.le_refl _)
      have h1 : nI (x + y + z) < nI 2 := by rw [← e1]; exact h
      have h2 : x + y + z < 2 := (nI_ltI (by omega) (by decide)).mp h1
      have h3 : ¬ 2 ≤ x + y + z := by omega
      simp [outc, h3]; rfl
    · refine g_run hC 2 rfl ?_
      refine g_iret hC rfl rfl ⟨?_, rfl⟩ (Nat.le_refl _) (Nat.le_refl _)
      have h1 : ¬ nI (x + y + z) < nI 2 := by rw [← e1]; exact h
      have h2 : ¬ x + y + z < 2 := fun q => h1 ((nI_ltI (by omega) (by decide)).mpr q)
      have h3 : 2 ≤ x + y + z := by omega
      simp [outc, h3]; rfl
theorem litW_lt {a o : Nat} : litW a o < 2 := litF_lt (by split <;> decide)
theorem c_X0_valueWhere (hW : KF ad L) (hp : Nat → KE) (g kd a b c0 : Nat) (ts : Nat → Nat) (tn : Nat → Int64) (o : Nat) (hg : g < 66) (hG : GateAt hp g kd a b c0 ts tn) (hk : kd < 4) (ha : a < 20) (hb : b < 20) (hc : c0 < 20) (ho : o < 512) : KM l yX0_valueWhere cX0_valueWhere 2 (some .int) (rmK 3 0 0) D dA ad sa L [.ref g, .int (nI o)] hp (fun r hp' => r = some (.int (nI (outc kd (litW a o) (litW b o) (litW c0 o)))) ∧ hp' = hp) := by
  refine KM.of rfl ok_X0_valueWhere (len_of rfl) hW.1.1 hW.1.2 ?_
  intro p e s m args below meth c A hC hN
  have gL := hW.2 g hg
  refine g_run hC 2 rfl ?_
  refine g_get hC rfl F_X0_23 gL hG.1 rfl ?_
  refine g_run hC 1 rfl ?_
  refine g_callS hC hN [.int (nI a), .int (nI o)] (c_X0_literalWhere hW hp a o ha ho) rfl M_X0_40 rfl (len_of rfl) (by decide) (by decide) ?_
  rintro r hp' ⟨rfl, rfl⟩
  refine g_run hC 1 rfl ?_
  refine g_get hC rfl F_X0_26 gL hG.1 rfl ?_
  refine g_run hC 1 rfl ?_
  refine g_callS hC hN [.int (nI b), .int (nI o)] (c_X0_literalWhere hW hp' b o hb ho) rfl M_X0_40 rfl (len_of rfl) (by decide) (by decide) ?_
  rintro r hp2 ⟨rfl, rfl⟩
  refine g_run hC 1 rfl ?_
  refine g_get hC rfl F_X0_29 gL hG.1 rfl ?_
  refine g_run hC 1 rfl ?_
  refine g_callS hC hN [.int (nI c0), .int (nI o)] (c_X0_literalWhere hW hp2 c0 o hc ho) rfl M_X0_40 rfl (len_of rfl) (by decide) (by decide) ?_
  rintro r hp3 ⟨rfl, rfl⟩
  refine g_callV hC hN [.int (nI (litW a o)), .int (nI (litW b o)), .int (nI (litW c0 o))] (c_X0_outcome hW hp3 g kd a b c0 ts tn _ _ _ hg hG hk litW_lt litW_lt litW_lt) rfl M_X0_44 gL hG.1 rfl rfl (len_of rfl) (by decide) (by decide) ?_
  rintro r hp4 ⟨rfl, rfl⟩
  exact g_iret hC rfl rfl ⟨rfl, rfl⟩ (Nat.le_refl _) (Nat.le_refl _)
end
end
section
def setG (hp : Nat → KE) (g : Nat) (ts : Nat → Nat) (tn : Nat → Int64) : Nat → KE := va_up (va_up hp (g + 1) (kI 8 (fun t => nI (ts t)))) (g + 2) (kJ 8 tn)
def gObj (g kd a b c : Nat) : KE := kO 0 [.int (nI kd), .int (nI a), .int (nI b), .int (nI c), .ref (g + 1), .ref (g + 2)]
def setGate (hp : Nat → KE) (g kd a b c : Nat) (ts : Nat → Nat) (tn : Nat → Int64) : Nat → KE := setG (va_up hp g (gObj g kd a b c)) g ts tn
theorem upI {f : Nat → Nat} {k v : Nat} : va_up (fun j => nI (f j)) k (nI v) = fun j => nI (va_up f k v j) := by
  funext j
  by_cases h : j = k
  · subst h; rw [va_up_self, va_up_self]
  · rw [va_up_ne _ _ h, va_up_ne _ _ h]
theorem setG_ne {hp : Nat → KE} {g k : Nat} {ts : Nat → Nat} {tn : Nat → Int64} (h1 : k ≠ g + 1) (h2 : k ≠ g + 2) : setG hp g ts tn k = hp k := by unfold setG; rw [va_up_ne _ _ h2, va_up_ne _ _ h1]
theorem setG_1 {hp : Nat → KE} {g : Nat} {ts : Nat → Nat} {tn : Nat → Int64} : setG hp g ts tn (g + 1) = kI 8 (fun t => nI (ts t)) := by unfold setG; rw [va_up_ne _ _ (by omega), va_up_self]
theorem setG_2 {hp : Nat → KE} {g : Nat} {ts : Nat → Nat} {tn : Nat → Int64} : setG hp g ts tn (g + 2) = kJ 8 tn := va_up_self _ _ _
theorem setG_setG {hp : Nat → KE} {g : Nat} {ts t2 : Nat → Nat} {tn n2 : Nat → Int64} : setG (setG hp g ts tn) g t2 n2 = setG hp g t2 n2 := by
  funext k
  by_cases h2 : k = g + 2
  · subst h2; rw [setG_2, setG_2]
  · by_cases h1 : k = g + 1
    · subst h1; rw [setG_1, setG_1]
    · rw [setG_ne h1 h2, setG_ne h1 h2, setG_ne h1 h2]
theorem setG_self {hp : Nat → KE} {g : Nat} {ts : Nat → Nat} {tn : Nat → Int64} (h1 : hp (g + 1) = kI 8 (fun t => nI (ts t))) (h2 : hp (g + 2) = kJ 8 tn) : setG hp g ts tn = hp := by
  funext k
  by_cases e2 : k = g + 2
  · subst e2; rw [setG_2, h2]
  · by_cases e1 : k = g + 1
    · subst e1; rw [setG_1, h1]
    · rw [setG_ne e1 e2]
theorem setGate_at (hp : Nat → KE) (g kd a b c : Nat) (ts : Nat → Nat) (tn : Nat → Int64) : GateAt (setGate hp g kd a b c ts tn) g kd a b c ts tn :=
  ⟨(setG_ne (by omega) (by omega)).trans (va_up_self _ _ _), setG_1, setG_2⟩
def gV (a b c t : Nat) : Nat := (t % 2) * wbit a ||| (t / 2 % 2) * wbit b ||| (t / 4 % 2) * wbit c
def gN (kd a b c t : Nat) : Int64 := lN (outc kd (litF a (t % 2)) (litF b (t / 2 % 2)) (litF c (t / 4 % 2)))
def turnN (tn : Nat → Int64) (b : Nat) : Nat → Nat → Int64
  | 0 => tn
  | i + 1 => if i &&& b = 0 then turnN tn b i else va_up (turnN tn b i) i (turnN tn b i i - turnN tn b i (i - b))
section
variable {l : Launch} {D : va_G} {dA ad sa : Nat → Nat} {L : List Nat}
theorem c_X0_setTermToValue (hW : KF ad L) (hp : Nat → KE) (g kd a b c0 : Nat) (ts : Nat → Nat) (tn : Nat → Int64) (t x y z : Nat) (hg : g + 2 < 66) (hG : GateAt hp g kd a b c0 ts tn) (hk : kd < 4) (ha : a < 20) (hb : b < 20) (hc : c0 < 20) (ht : t < 8) (hx : x < 2) (hy : y < 2) (hz : z < 2) : KM l yX0_setTermToValue cX0_setTermToValue 5 none (rmK 3 0 0) D dA ad sa L [.ref g, .int (nI t), .int (nI x), .int (nI y), .int (nI z)] hp (fun r hp' => r = none ∧ hp' = setG hp g (va_up ts t (x * wbit a ||| y * wbit b ||| z * wbit c0)) (va_up tn t (lN (outc kd (litF a x) (litF b y) (litF c0 z))))) := by
  refine KM.of rfl ok_X0_setTermToValue (len_of rfl) hW.1.1 hW.1.2 ?_
  intro p e s m args below meth c A hC hN
  have gL := hW.2 g (by omega)
  have gL1 := hW.2 (g + 1) (by omega)
  have gL2 := hW.2 (g + 2) (by omega)
  refine g_run hC 1 rfl ?_
  refine g_get hC rfl F_X0_11 gL hG.1 rfl ?_
  refine g_run hC 3 rfl ?_
  refine g_get hC rfl F_X0_23 gL hG.1 rfl ?_
  refine g_callS hC hN [.int (nI a)] (c_X0_wireBit hW hp a ha) rfl M_X0_54 rfl (len_of rfl) (by decide) (by decide) ?_
  rintro r hp' ⟨rfl, rfl⟩
  refine g_run hC 3 rfl ?_
  refine g_get hC rfl F_X0_26 gL hG.1 rfl ?_
  refine g_callS hC hN [.int (nI b)] (c_X0_wireBit hW hp' b hb) rfl M_X0_54 rfl (len_of rfl) (by decide) (by decide) ?_
  rintro r hp2 ⟨rfl, rfl⟩
  refine g_run hC 4 rfl ?_
  refine g_get hC rfl F_X0_29 gL hG.1 rfl ?_
  refine g_callS hC hN [.int (nI c0)] (c_X0_wireBit hW hp2 c0 hc) rfl M_X0_54 rfl (len_of rfl) (by decide) (by decide) ?_
  rintro r hp3 ⟨rfl, rfl⟩
  refine g_run hC 2 rfl ?_
  refine g_top (nI (x * wbit a ||| y * wbit b ||| z * wbit c0)) ?_ ?_
  · show nI x * nI (wbit a) ||| nI y * nI (wbit b) ||| nI z * nI (wbit c0) = _
    rw [pk_mul, pk_mul, pk_mul, nI_or, nI_or]
  refine g_ist hC t rfl gL1 hG.2.1 rfl ht (by decide) ?_
  rw [upI]
  have hO : (va_up hp3 (g + 1) (kI 8 fun j => nI (va_up ts t (x * wbit a ||| y * wbit b ||| z * wbit c0) j))) g = gObj g kd a b c0 := by rw [va_up_ne _ _ (by omega)]; exact hG.1
  have hG2 : GateAt (va_up hp3 (g + 1) (kI 8 fun j => nI (va_up ts t (x * wbit a ||| y * wbit b ||| z * wbit c0) j))) g kd a b c0 (va_up ts t (x * wbit a ||| y * wbit b ||| z * wbit c0)) tn := ⟨hO, va_up_self _ _ _, by rw [va_up_ne _ _ (by omega)]; exact hG.2.2⟩
  refine g_run hC 1 rfl ?_
  refine g_get hC rfl F_X0_15 gL hO rfl ?_
  refine g_run hC 3 rfl ?_
  refine g_get hC rfl F_X0_23 gL hO rfl ?_
  refine g_run hC 1 rfl ?_
  refine g_callS hC hN [.int (nI a), .int (nI x)] (c_X0_literalFor hW _ a x ha) rfl M_X0_58 rfl (len_of rfl) (by decide) (by decide) ?_
  rintro r hp4 ⟨rfl, rfl⟩
  refine g_run hC 1 rfl ?_
  refine g_get hC rfl F_X0_26 gL hO rfl ?_
  refine g_run hC 1 rfl ?_
  refine g_callS hC hN [.int (nI b), .int (nI y)] (c_X0_literalFor hW _ b y hb) rfl M_X0_58 rfl (len_of rfl) (by decide) (by decide) ?_
  rintro r hp5 ⟨rfl, rfl⟩
  refine g_run hC 1 rfl ?_
  refine g_get hC rfl F_X0_29 gL hO rfl ?_
  refine g_run hC 1 rfl ?_
  refine g_callS hC hN [.int (nI c0), .int (nI z)] (c_X0_literalFor hW _ c0 z hc) rfl M_X0_58 rfl (len_of rfl) (by decide) (by decide) ?_
  rintro r hp6 ⟨rfl, rfl⟩
  refine g_callV hC hN [.int (nI (litF a x)), .int (nI (litF b y)), .int (nI (litF c0 z))] (c_X0_outcome hW _ g kd a b c0 _ tn _ _ _ (by omega) hG2 hk (litF_lt hx) (litF_lt hy) (litF_lt hz)) rfl M_X0_44 gL hO rfl rfl (len_of rfl) (by decide) (by decide) ?_
  rintro r hp7 ⟨rfl, rfl⟩
  refine g_run hC 1 rfl ?_
  refine g_topl (lN (outc kd (litF a x) (litF b y) (litF c0 z))) (nI_l (Nat.lt_trans (outc_lt (litF_lt hx) (litF_lt hy) (litF_lt hz)) (by decide))) ?_
  refine g_lst hC t rfl gL2 hG2.2.2 rfl ht (by decide) ?_
  exact g_ret hC rfl rfl ⟨rfl, rfl⟩ (Nat.le_refl _) (Nat.le_refl _)
theorem c_X0_turn (hW : KF ad L) (hp : Nat → KE) (g kd a b0 c0 : Nat) (ts : Nat → Nat) (tn : Nat → Int64) (b : Nat) (hg : g + 2 < 66) (hG : GateAt hp g kd a b0 c0 ts tn) (hb : b = 1 ∨ b = 2 ∨ b = 4) : KM l yX0_turnValuesToNumbers cX0_turnValuesToNumbers 3 none (rmK 0 0 0) D dA ad sa L [.ref g, .int (nI b)] hp (fun r hp' => r = none ∧ hp' = setG hp g ts (turnN tn b 8)) := by
  refine KM.of rfl ok_X0_turnValuesToNumbers (len_of rfl) hW.1.1 hW.1.2 ?_
  intro p e s m args below meth c A hC hN
  have gL := hW.2 g (by omega)
  have gL2 := hW.2 (g + 2) (by omega)
  have hO : ∀ n, (setG hp g ts n) g = gObj g kd a b0 c0 := fun n => (setG_ne (by omega) (by omega)).trans hG.1
  refine g_run hC 2 rfl ?_
  refine g_loop 0 8 (fun i => setG hp g ts (turnN tn b i)) (fun i => [(0, .ref g), (1, .int (nI b)), (2, .int (nI i))]) (Nat.zero_le _) (setG_self hG.2.1 hG.2.2).symm ⟨rfl, rfl, rfl, trivial⟩ ?_ ?_
  · intro i _ hi ih
    refine g_run hC 2 rfl ?_
    refine g_icge (tgt := 37) hC rfl (by decide) (fun h => ?_) (fun _ => ?_)
    · exact absurd ((nI_leI (a := 8) (b := i) (by decide) (by omega)).mp h) (by omega)
    · refine g_run hC 3 rfl ?_
      refine g_top (nI (i &&& b)) (nI_and _ _) ?_
      have hz := nI_z (n := i &&& b) (Nat.lt_of_le_of_lt Nat.and_le_left (by omega))
      refine g_cut (setG hp g ts (turnN tn b (i + 1))) 31 [(0, .ref g), (1, .int (nI b)), (2, .int (nI i))] [] ?_ (fun tail => ?_)
      · refine g_run hC 2 rfl ?_
        exact g_lvs ih ⟨rfl, rfl, sI (nI_s i), trivial⟩
      · refine g_ifeq (tgt := 31) hC rfl (by decide) (fun h => ?_) (fun h => ?_)
        · refine g_hp ?_ (g_lvs tail ⟨rfl, rfl, rfl, trivial⟩)
          simp only [turnN]
          rw [if_pos (hz.mp h)]
        · have h0 : ¬ i &&& b = 0 := fun q => h (hz.mpr q)
          have hbi : b ≤ i := by
            rcases hb with rfl | rfl | rfl
            · exact Nat.pos_of_ne_zero (fun q => h0 (by rw [q]; rfl))
            · exact Nat.le_of_not_lt (fun q => h0 (by rcases (show i = 0 ∨ i = 1 by omega) with rfl | rfl <;> rfl))
            · exact Nat.le_of_not_lt (fun q => h0 (by rcases (show i = 0 ∨ i = 1 ∨ i = 2 ∨ i = 3 by omega) with rfl | rfl | rfl | rfl <;> rfl))
          refine g_run hC 1 rfl ?_
          refine g_get hC rfl F_X0_15 gL (hO _) rfl ?_
          refine g_run hC 2 rfl ?_
          refine g_lld hC i rfl gL2 setG_2 rfl hi (by decide) ?_
          refine g_run hC 1 rfl ?_
          refine g_get hC rfl F_X0_15 gL (hO _) rfl ?_
          refine g_run hC 3 rfl ?_
          refine g_lld hC (i - b) rfl gL2 setG_2 (pk_sub hbi) (by omega) (by decide) ?_
          refine g_run hC 1 rfl ?_
          refine g_lst hC i rfl gL2 setG_2 rfl hi (by decide) ?_
          refine g_hp ?_ (g_lvs tail ⟨rfl, rfl, rfl, trivial⟩)
          simp only [turnN]
          rw [if_neg h0]
          unfold setG
          rw [up_up]
  · refine g_run hC 2 rfl ?_
    refine g_icge (tgt := 37) hC rfl (by decide) (fun _ => ?_) (fun h => absurd (Int32.le_refl _) h)
    exact g_ret hC rfl rfl ⟨rfl, rfl⟩ (Nat.le_refl _) (Nat.le_refl _)
/-- a gate's numbers -/
def gT (kd a b c : Nat) : Nat → Int64 := turnN (turnN (turnN (gN kd a b c) 1 8) 2 8) 4 8
theorem turnN_congr {f g : Nat → Int64} {b : Nat} (h : ∀ j, j < 8 → f j = g j) : ∀ i, i ≤ 8 → ∀ j, j < 8 → turnN f b i j = turnN g b i j
  | 0, _, j, hj => h j hj
  | i + 1, hi, j, hj => by
    have ih := turnN_congr (b := b) h i (by omega)
    simp only [turnN]
    split
    · exact ih j hj
    · by_cases hji : j = i
      · subst hji; rw [va_up_self, va_up_self, ih j hj, ih (j - b) (by omega)]
      · rw [va_up_ne _ _ hji, va_up_ne _ _ hji, ih j hj]
theorem c_X0_become (hW : KF ad L) (hp : Nat → KE) (g k0 a0 b0 d0 : Nat) (ts : Nat → Nat) (tn : Nat → Int64) (kd a b c0 : Nat) (hg : g + 2 < 66) (hG : GateAt hp g k0 a0 b0 d0 ts tn) (hk : kd < 4) (ha : a < 20) (hb : b < 20) (hc : c0 < 20) : KM l yX0_become cX0_become 6 none (rmK 4 0 0) D dA ad sa L [.ref g, .int (nI kd), .int (nI a), .int (nI b), .int (nI c0)] hp (fun r hp' => r = none ∧ hp' = setGate hp g kd a b c0 (gV a b c0) (gT kd a b c0)) := by
  refine KM.of rfl ok_X0_become (len_of rfl) hW.1.1 hW.1.2 ?_
  intro p e s m args below meth c A hC hN
  have gL := hW.2 g (by omega)
  have gL1 := hW.2 (g + 1) (by omega)
  have gL2 := hW.2 (g + 2) (by omega)
  refine g_run hC 2 rfl ?_
  refine g_putI hC rfl F_X0_19 gL hG.1 (len_of rfl) rfl rfl ?_
  refine g_run hC 2 rfl ?_
  refine g_putI hC rfl F_X0_23 gL (va_up_self _ _ _) (len_of rfl) rfl rfl ?_
  refine g_run hC 2 rfl ?_
  refine g_putI hC rfl F_X0_26 gL (va_up_self _ _ _) (len_of rfl) rfl rfl ?_
  refine g_run hC 2 rfl ?_
  refine g_putI hC rfl F_X0_29 gL (va_up_self _ _ _) (len_of rfl) rfl rfl ?_
  rw [up_up, up_up, up_up]
  refine g_run hC 2 rfl ?_
  have hS : ∀ t n, GateAt (setGate hp g kd a b c0 t n) g kd a b c0 t n := fun t n => setGate_at _ _ _ _ _ _ _ _
  refine g_loop 0 8 (fun i => setGate hp g kd a b c0 (fun j => if j < i then gV a b c0 j else ts j) (fun j => if j < i then gN kd a b c0 j else tn j)) (fun i => [(0, .ref g), (1, .int (nI kd)), (5, .int (nI i))]) (Nat.zero_le _) ?_ ⟨rfl, rfl, rfl, trivial⟩ ?_ ?_
  · have e1 : (fun j => if j < 0 then gV a b c0 j else ts j) = ts := by funext j; simp
    have e2 : (fun j => if j < 0 then gN kd a b c0 j else tn j) = tn := by funext j; simp
    show va_up hp g (gObj g kd a b c0) = _
    rw [e1, e2]
    unfold setGate
    exact (setG_self ((va_up_ne _ _ (by omega)).trans hG.2.1) ((va_up_ne _ _ (by omega)).trans hG.2.2)).symm
  · intro i _ hi ih
    refine g_run hC 2 rfl ?_
    refine g_icge (tgt := 59) hC rfl (by decide) (fun h => ?_) (fun _ => ?_)
    · exact absurd ((nI_leI (a := 8) (b := i) (by decide) (by omega)).mp h) (by omega)
    · refine g_run hC 15 rfl ?_
      refine g_cv (st' := [.int (nI (i / 4 % 2)), .int (nI (i / 2 % 2)), .int (nI (i % 2)), .int (nI i), .ref g]) rfl ?_ ?_
      · have e1 : nI i &&& nI 1 = nI (i % 2) := by rw [nI_and, Nat.and_one_is_mod]
        have e2 : nI i >>> (nI 1 &&& 31) &&& nI 1 = nI (i / 2 % 2) := by rw [shr_n i hi 1 (by decide), nI_and, Nat.and_one_is_mod]
        have e3 : nI i >>> (nI 2 &&& 31) &&& nI 1 = nI (i / 4 % 2) := by rw [shr_n i hi 2 (by decide), nI_and, Nat.and_one_is_mod]
        rw [← e1, ← e2, ← e3]; rfl
      refine g_callV hC hN [.int (nI i), .int (nI (i % 2)), .int (nI (i / 2 % 2)), .int (nI (i / 4 % 2))] (c_X0_setTermToValue hW _ g kd a b c0 _ _ i _ _ _ hg (hS _ _) hk ha hb hc hi (Nat.mod_lt _ (by decide)) (Nat.mod_lt _ (by decide)) (Nat.mod_lt _ (by decide))) rfl M_X0_32 gL (hS _ _).1 rfl rfl (len_of rfl) (by decide) (by decide) ?_
      rintro r hp1 ⟨rfl, rfl⟩
      refine g_run hC 2 rfl ?_
      refine g_hp ?_ (g_lvs ih ⟨rfl, rfl, sI (nI_s i), trivial⟩)
      unfold setGate
      rw [setG_setG]
      congr 1
      · funext j
        by_cases h : j = i
        · subst h; rw [va_up_self, if_pos (by omega)]; rfl
        · rw [va_up_ne _ _ h]
          by_cases h2 : j < i
          · rw [if_pos h2, if_pos (by omega)]
          · rw [if_neg h2, if_neg (by omega)]
      · funext j
        by_cases h : j = i
        · subst h; rw [va_up_self, if_pos (by omega)]; rfl
        · rw [va_up_ne _ _ h]
          by_cases h2 : j < i
          · rw [if_pos h2, if_pos (by omega)]
          · rw [if_neg h2, if_neg (by omega)]
  · refine g_run hC 2 rfl ?_
    refine g_icge (tgt := 59) hC rfl (by decide) (fun _ => ?_) (fun h => absurd (Int32.le_refl _) h)
    refine g_run hC 2 rfl ?_
    refine g_callV hC hN [.int (nI 1)] (c_X0_turn hW _ g kd a b c0 _ _ 1 hg (hS _ _) (Or.inl rfl)) rfl M_X0_36 gL (hS _ _).1 rfl rfl (len_of rfl) (by decide) (by decide) ?_
    rintro r hp1 ⟨rfl, rfl⟩
    rw [show ∀ t n n2, setG (setGate hp g kd a b c0 t n) g t n2 = setGate hp g kd a b c0 t n2 from fun t n n2 => setG_setG]
    refine g_run hC 2 rfl ?_
    refine g_callV hC hN [.int (nI 2)] (c_X0_turn hW _ g kd a b c0 _ _ 2 hg (hS _ _) (Or.inr (Or.inl rfl))) rfl M_X0_36 gL (hS _ _).1 rfl rfl (len_of rfl) (by decide) (by decide) ?_
    rintro r hp1 ⟨rfl, rfl⟩
    rw [show ∀ t n n2, setG (setGate hp g kd a b c0 t n) g t n2 = setGate hp g kd a b c0 t n2 from fun t n n2 => setG_setG]
    refine g_run hC 2 rfl ?_
    refine g_callV hC hN [.int (nI 4)] (c_X0_turn hW _ g kd a b c0 _ _ 4 hg (hS _ _) (Or.inr (Or.inr rfl))) rfl M_X0_36 gL (hS _ _).1 rfl rfl (len_of rfl) (by decide) (by decide) ?_
    rintro r hp1 ⟨rfl, rfl⟩
    rw [show ∀ t n n2, setG (setGate hp g kd a b c0 t n) g t n2 = setGate hp g kd a b c0 t n2 from fun t n n2 => setG_setG]
    refine g_hpx (hp' := setGate hp g kd a b c0 (gV a b c0) (gT kd a b c0)) ?_ (g_ret hC rfl rfl ⟨rfl, rfl⟩ (Nat.le_refl _) (Nat.le_refl _))
    intro k
    by_cases h2 : k = g + 2
    · subst h2
      rw [(setGate_at _ _ _ _ _ _ _ _).2.2, (setGate_at _ _ _ _ _ _ _ _).2.2]
      refine KEq.J (fun j hj => ?_)
      unfold gT
      refine turnN_congr (fun j hj => turnN_congr (fun j hj => turnN_congr (fun j hj => if_pos hj) 8 (Nat.le_refl _) j hj) 8 (Nat.le_refl _) j hj) 8 (Nat.le_refl _) j hj
    · by_cases h1 : k = g + 1
      · subst h1
        rw [(setGate_at _ _ _ _ _ _ _ _).2.1, (setGate_at _ _ _ _ _ _ _ _).2.1]
        exact KEq.I (fun j hj => by rw [if_pos hj])
      · left
        unfold setGate
        rw [setG_ne h1 h2, setG_ne h1 h2]
end
end
section
def inc (f : Nat → Int64) (k : Nat) (v : Int64) : Nat → Int64 := va_up f k (f k + v)
def addN (f : Nat → Int64) (S : Nat) (num : Int64) (ts : Nat → Nat) (tn : Nat → Int64) : Nat → Nat → Int64
  | 0 => f
  | i + 1 => inc (addN f S num ts tn i) (S ||| ts i) (num * tn i)
def elimN (row : Nat → Int64) (wb : Nat) (ts : Nat → Nat) (tn : Nat → Int64) : Nat → Nat → Int64
  | 0 => fun _ => 0
  | i + 1 => if row i = 0 then elimN row wb ts tn i else if i &&& wb = 0 then inc (elimN row wb ts tn i) i (row i) else addN (elimN row wb ts tn i) (i - wb) (row i) ts tn 8
def elimC (row : Nat → Int64) (wb : Nat) (ts : Nat → Nat) (tn : Nat → Int64) : Nat → Int64 := elimN row wb ts tn 512
def monAt (row : Nat → Int64) : Nat → Nat → Nat
  | 0, _ => 0
  | s + 1, n => if row (s + 1) = 0 then monAt row s n else if n = 0 then s + 1 else monAt row s (n - 1)
def popN (k : Nat) : Nat := k % 2 + k / 2 % 2 + k / 4 % 2 + k / 8 % 2 + k / 16 % 2 + k / 32 % 2 + k / 64 % 2 + k / 128 % 2 + k / 256 % 2
def lmN (row : Nat → Int64) : Nat → Nat × Nat
  | 0 => (0, 10)
  | i + 1 => if row i = 0 then lmN row i else if popN i < (lmN row i).2 then (i, popN i) else lmN row i
def vsN (row : Nat → Int64) (o : Nat) : Nat → Int64
  | 0 => 0
  | i + 1 => if i &&& o = i then vsN row o i + row i else vsN row o i
def eqN (f g : Nat → Int64) : Nat → Bool
  | 0 => true
  | n + 1 => eqN f g n && decide (f n = g n)
def eqR (f g : Nat → Int64) : Bool := eqN f g 512
theorem eqN_iff {f g : Nat → Int64} : ∀ {n : Nat}, eqN f g n = true ↔ ∀ i, i < n → f i = g i
  | 0 => ⟨fun _ i h => absurd h (Nat.not_lt_zero i), fun _ => rfl⟩
  | n + 1 => by
    simp only [eqN, Bool.and_eq_true, decide_eq_true_eq, eqN_iff (n := n)]
    constructor
    · rintro ⟨h1, h2⟩ i hi
      by_cases h : i = n
      · subst h; exact h2
      · exact h1 i (by omega)
    · exact fun h => ⟨fun i hi => h i (by omega), h n (by omega)⟩
theorem popN_eq : ∀ k : Nat, k < 512 → popI (nI k) = nI (popN k) := by decide +kernel
theorem popN_lt (k : Nat) : popN k < 10 := by unfold popN; omega
theorem lmN_lt (row : Nat → Int64) : ∀ i, (lmN row i).1 ≤ i ∧ (lmN row i).2 < 11
  | 0 => ⟨Nat.le_refl _, show 10 < 11 by decide⟩
  | i + 1 => by
    have := lmN_lt row i
    have h2 := popN_lt i
    simp only [lmN]
    split
    · exact ⟨by omega, this.2⟩
    · split
      · exact ⟨Nat.le_succ _, by omega⟩
      · exact ⟨by omega, this.2⟩
theorem andnot (i o : Nat) (hi : i < 512) : nI i &&& (nI o ^^^ cI (-1)) = 0 ↔ i &&& o = i := by
  have e1 : nI i &&& (nI o ^^^ cI (-1)) = 0 ↔ nI i &&& nI o = nI i := by
    rw [← Int32.toBitVec_inj, ← Int32.toBitVec_inj]
    show BitVec.ofNat 32 i &&& (BitVec.ofNat 32 o ^^^ BitVec.allOnes 32) = 0#32 ↔ BitVec.ofNat 32 i &&& BitVec.ofNat 32 o = BitVec.ofNat 32 i
    generalize BitVec.ofNat 32 i = x
    generalize BitVec.ofNat 32 o = y
    constructor
    · intro h
      apply BitVec.eq_of_getLsbD_eq
      intro j hj
      have h1 := congrArg (fun z => z.getLsbD j) h
      simp only [BitVec.getLsbD_and, BitVec.getLsbD_xor, BitVec.getLsbD_allOnes, decide_eq_true hj, BitVec.getLsbD_zero] at h1 ⊢
      revert h1
      cases x.getLsbD j <;> cases y.getLsbD j <;> decide
    · intro h
      apply BitVec.eq_of_getLsbD_eq
      intro j hj
      have h1 := congrArg (fun z => z.getLsbD j) h
      simp only [BitVec.getLsbD_and, BitVec.getLsbD_xor, BitVec.getLsbD_allOnes, decide_eq_true hj, BitVec.getLsbD_zero] at h1 ⊢
      revert h1
      cases x.getLsbD j <;> cases y.getLsbD j <;> decide
  rw [e1, nI_and]
  exact nI_eq (Nat.lt_of_le_of_lt Nat.and_le_left (by omega)) (by omega)
theorem or_lt9 {a b : Nat} (ha : a < 512) (hb : b < 512) : a ||| b < 512 := Nat.or_lt_two_pow (n := 9) ha hb
theorem and_bit_le {i n : Nat} (h : ¬ i &&& 2 ^ n = 0) : 2 ^ n ≤ i := by
  apply Nat.le_of_not_lt
  intro q
  apply h
  apply Nat.eq_of_testBit_eq
  intro j
  rw [Nat.testBit_and, Nat.testBit_two_pow, Nat.zero_testBit]
  by_cases hj : n = j
  · subst hj; rw [Nat.testBit_lt_two_pow q]; rfl
  · rw [decide_eq_false hj, Bool.and_false]
section
variable {l : Launch} {D : va_G} {dA ad sa : Nat → Nat} {L : List Nat}
theorem c_X0_addProduct (hW : KF ad L) (hp : Nat → KE) (g kd a b c0 : Nat) (ts : Nat → Nat) (tn : Nat → Int64) (q : Nat) (row : Nat → Int64) (S : Nat) (num : Int64) (hg : g + 2 < 66) (hG : GateAt hp g kd a b c0 ts tn) (hq : q + 1 < 66) (hP : PolyAt hp q row) (d1 : g ≠ q) (d2 : g ≠ q + 1) (d3 : g + 1 ≠ q) (d4 : g + 2 ≠ q) (hS : S < 512) (hts : ∀ t, t < 8 → ts t < 512) :
    KM l yX0_addProduct cX0_addProduct 6 none (rmK 1 0 0) D dA ad sa L [.ref g, .ref q, .int (nI S), .long num] hp (fun r hp' => r = none ∧ hp' = setP hp q (addN row S num ts tn 8)) := by
  refine KM.of rfl ok_X0_addProduct (len_of rfl) hW.1.1 hW.1.2 ?_
  intro p e s m args below meth c A hC hN
  have gL := hW.2 g (by omega)
  have gL1 := hW.2 (g + 1) (by omega)
  have gL2 := hW.2 (g + 2) (by omega)
  have qL := hW.2 q (by omega)
  have hGi : ∀ r, GateAt (setP hp q r) g kd a b c0 ts tn := fun r => hG.keep d1 d2 d3 d4 (by omega)
  refine g_run hC 2 rfl ?_
  refine g_loop 0 8 (fun i => setP hp q (addN row S num ts tn i)) (fun i => [(0, .ref g), (1, .ref q), (2, .int (nI S)), (3, .long num), (5, .int (nI i))]) (Nat.zero_le _) (setP_self hP).symm ⟨rfl, rfl, rfl, rfl, rfl, trivial⟩ ?_ ?_
  · intro i _ hi ih
    refine g_run hC 2 rfl ?_
    refine g_icge (tgt := 39) hC rfl (by decide) (fun h => ?_) (fun _ => ?_)
    · exact absurd ((nI_leI (a := 8) (b := i) (by decide) (by omega)).mp h) (by omega)
    · refine g_run hC 3 rfl ?_
      refine g_get hC rfl F_X0_11 gL (hGi _).1 rfl ?_
      refine g_run hC 1 rfl ?_
      refine g_ild hC i rfl gL1 (hGi _).2.1 rfl hi (by decide) ?_
      refine g_run hC 3 rfl ?_
      refine g_get hC rfl F_X0_15 gL (hGi _).1 rfl ?_
      refine g_run hC 1 rfl ?_
      refine g_lld hC i rfl gL2 (hGi _).2.2 rfl hi (by decide) ?_
      refine g_run hC 1 rfl ?_
      refine g_cv (st' := [.long (num * tn i), .int (nI (S ||| ts i)), .ref q]) rfl ?_ ?_
      · rw [← nI_or]
      refine g_callV hC hN [.int (nI (S ||| ts i)), .long (num * tn i)] (c_X1_increase hW _ q (S ||| ts i) _ (num * tn i) hq (setP_at _ _ _) (or_lt9 hS (hts i hi))) rfl M_X0_48 qL (setP_at _ _ _).1 rfl rfl (len_of rfl) (by decide) (by decide) ?_
      rintro r hp1 ⟨rfl, rfl⟩
      refine g_run hC 3 rfl ?_
      refine g_hp ?_ (g_lvs ih ⟨rfl, rfl, rfl, rfl, sI (nI_s i), trivial⟩)
      rw [setP_setP]; rfl
  · refine g_run hC 2 rfl ?_
    refine g_icge (tgt := 39) hC rfl (by decide) (fun _ => ?_) (fun h => absurd (Int32.le_refl _) h)
    exact g_ret hC rfl rfl ⟨rfl, rfl⟩ (Nat.le_refl _) (Nat.le_refl _)
theorem c_X1_erase (hW : KF ad L) (hp : Nat → KE) (q : Nat) (row : Nat → Int64) (hq : q + 1 < 66) (hP : PolyAt hp q row) : KM l yX1_erase cX1_erase 1 none (rmK 1 0 0) D dA ad sa L [.ref q] hp (fun r hp' => r = none ∧ hp' = setP hp q (fun _ => 0)) := by
  refine KM.of rfl ok_X1_erase (len_of rfl) hW.1.1 hW.1.2 ?_
  intro p e s m args below meth c A hC hN
  have qL := hW.2 q (by omega)
  refine g_run hC 1 rfl ?_
  refine g_get hC rfl F_X1_9 qL hP.1 rfl ?_
  refine g_run hC 1 rfl ?_
  refine g_callS hC hN [.ref (q + 1), .long (Int64.ofNat ((0 : Fin 2) : Nat))] (c_fill hW hp (q + 1) 512 row _ hq (by decide) hP.2) rfl M_X1_15 rfl (len_of rfl) (by decide) (by decide) ?_
  rintro r hp1 ⟨rfl, rfl⟩
  refine g_run hC 2 rfl ?_
  refine g_putI hC rfl F_X1_21 qL ((va_up_ne _ _ (by omega)).trans hP.1) (len_of rfl) rfl rfl ?_
  refine g_ret hC rfl rfl ⟨rfl, ?_⟩ (Nat.le_refl _) (Nat.le_refl _)
  unfold setP cnt
  rw [cntN_zero]
  rfl
theorem c_X1_becomeCopy (hW : KF ad L) (hp : Nat → KE) (q q2 : Nat) (row r2 : Nat → Int64) (hq : q + 1 < 66) (hP : PolyAt hp q row) (hq2 : q2 + 1 < 66) (hP2 : PolyAt hp q2 r2) (d1 : q2 ≠ q) (d2 : q2 ≠ q + 1) (d3 : q2 + 1 ≠ q) : KM l yX1_becomeCopy cX1_becomeCopy 2 none (rmK 1 0 0) D dA ad sa L [.ref q, .ref q2] hp (fun r hp' => r = none ∧ hp' = setP hp q r2) := by
  refine KM.of rfl ok_X1_becomeCopy (len_of rfl) hW.1.1 hW.1.2 ?_
  intro p e s m args below meth c A hC hN
  have qL := hW.2 q (by omega)
  have qL2 := hW.2 q2 (by omega)
  refine g_run hC 1 rfl ?_
  refine g_get hC rfl F_X1_9 qL2 hP2.1 rfl ?_
  refine g_run hC 2 rfl ?_
  refine g_get hC rfl F_X1_9 qL hP.1 rfl ?_
  refine g_run hC 2 rfl ?_
  refine g_copyl hC rfl mL_X1_25 (hW.2 (q2 + 1) hq2) (hW.2 (q + 1) hq) hP2.2 hP.2 (by decide) rfl rfl rfl (by decide) (len_of rfl) ?_
  refine g_run hC 2 rfl ?_
  refine g_get hC rfl F_X1_21 qL2 ((va_up_ne _ _ d2).trans hP2.1) rfl ?_
  refine g_putI hC rfl F_X1_21 qL ((va_up_ne _ _ (by omega)).trans hP.1) (len_of rfl) rfl rfl ?_
  refine g_hpx (hp' := setP hp q r2) ?_ (g_ret hC rfl rfl ⟨rfl, rfl⟩ (Nat.le_refl _) (Nat.le_refl _))
  intro k
  unfold setP
  by_cases h1 : k = q
  · subst h1; rw [va_up_self, va_up_self]; exact KEq.rf
  · rw [va_up_ne _ _ h1, va_up_ne _ _ h1]
    by_cases h2 : k = q + 1
    · subst h2; rw [va_up_self, va_up_self]
      refine KEq.J (fun j hj => ?_)
      rw [pk_cpy_in (Nat.zero_le _) (by omega)]
      simp
    · rw [va_up_ne _ _ h2, va_up_ne _ _ h2]; exact KEq.rf
theorem c_X1_becomeElimination (hW : KF ad L) (hp : Nat → KE) (q q2 g n : Nat) (row r2 : Nat → Int64) (kd a b c0 : Nat) (ts : Nat → Nat) (tn : Nat → Int64) (hq : q + 1 < 66) (hP : PolyAt hp q row) (hq2 : q2 + 1 < 66) (hP2 : PolyAt hp q2 r2) (hg : g + 2 < 66) (hG : GateAt hp g kd a b c0 ts tn) (d1 : q2 ≠ q) (d2 : q2 ≠ q + 1) (d3 : q2 + 1 ≠ q) (e1 : g ≠ q) (e2 : g ≠ q + 1) (e3 : g + 1 ≠ q) (e4 : g + 2 ≠ q) (hn : n < 9) (hts : ∀ t, t < 8 → ts t < 512) :
    KM l yX1_becomeElimination cX1_becomeElimination 7 none (rmK 2 0 0) D dA ad sa L [.ref q, .ref q2, .int (nI (2 ^ n)), .ref g] hp (fun r hp' => r = none ∧ hp' = setP hp q (elimC r2 (2 ^ n) ts tn)) := by
  refine KM.of rfl ok_X1_becomeElimination (len_of rfl) hW.1.1 hW.1.2 ?_
  intro p e s m args below meth c A hC hN
  have qL := hW.2 q (by omega)
  have qL2 := hW.2 q2 (by omega)
  have gL := hW.2 g (by omega)
  have hwb : 2 ^ n < 512 := Nat.pow_lt_pow_of_lt (by decide) hn
  have hPi : ∀ r, PolyAt (setP hp q r) q2 r2 := fun r => hP2.keep d1 d2 d3
  have hGi : ∀ r, GateAt (setP hp q r) g kd a b c0 ts tn := fun r => hG.keep e1 e2 e3 e4 (by omega)
  refine g_run hC 1 rfl ?_
  refine g_callV hC hN [] (c_X1_erase hW hp q row hq hP) rfl M_X1_31 qL hP.1 rfl rfl (len_of rfl) (by decide) (by decide) ?_
  rintro r hp1 ⟨rfl, rfl⟩
  refine g_run hC 2 rfl ?_
  refine g_loop 0 512 (fun i => setP hp q (elimN r2 (2 ^ n) ts tn i)) (fun i => [(0, .ref q), (1, .ref q2), (2, .int (nI (2 ^ n))), (3, .ref g), (4, .int (nI i))]) (Nat.zero_le _) rfl ⟨rfl, rfl, rfl, rfl, rfl, trivial⟩ ?_ ?_
  · intro i _ hi ih
    refine g_run hC 2 rfl ?_
    refine g_icge (tgt := 74) hC rfl (by decide) (fun h => ?_) (fun _ => ?_)
    · exact absurd ((nI_leI (a := 512) (b := i) (by decide) (by omega)).mp h) (by omega)
    · refine g_run hC 1 rfl ?_
      refine g_get hC rfl F_X1_9 qL2 (hPi _).1 rfl ?_
      refine g_run hC 1 rfl ?_
      refine g_lld hC i rfl (hW.2 (q2 + 1) hq2) (hPi _).2 rfl hi (by decide) ?_
      refine g_run hC 4 rfl ?_
      refine g_cut (setP hp q (elimN r2 (2 ^ n) ts tn (i + 1))) 68 [(0, .ref q), (1, .ref q2), (2, .int (nI (2 ^ n))), (3, .ref g), (4, .int (nI i))] [] ?_ (fun tail => ?_)
      · refine g_run hC 2 rfl ?_
        exact g_lvs ih ⟨rfl, rfl, rfl, rfl, sI (nI_s i), trivial⟩
      · have hz := nI_z (n := i &&& 2 ^ n) (Nat.lt_of_le_of_lt Nat.and_le_left (by omega))
        refine g_ifeq (tgt := 50) hC rfl (by decide) (fun h => ?_) (fun h => ?_)
        · have h0 : r2 i = 0 := (cmpz _).mp h
          refine g_run hC 3 rfl ?_
          refine g_ifeq (tgt := 68) hC rfl (by decide) (fun _ => ?_) (fun h2 => absurd ((cmpz _).mpr h0) h2)
          refine g_hp ?_ (g_lvs tail ⟨rfl, rfl, rfl, rfl, rfl, trivial⟩)
          simp only [elimN]
          rw [if_pos h0]
        · have h0 : ¬ r2 i = 0 := fun z => h ((cmpz _).mpr z)
          refine g_run hC 3 rfl ?_
          refine g_top (nI (i &&& 2 ^ n)) (nI_and _ _) ?_
          refine g_ifne (tgt := 50) hC rfl (by decide) (fun h1 => ?_) (fun h1 => ?_)
          · have h2 : ¬ i &&& 2 ^ n = 0 := fun z => h1 (hz.mpr z)
            refine g_run hC 3 rfl ?_
            refine g_ifeq (tgt := 68) hC rfl (by decide) (fun h3 => absurd ((cmpz _).mp h3) h0) (fun _ => ?_)
            refine g_run hC 6 rfl ?_
            refine g_cv (st' := [.long (r2 i), .int (nI (i - 2 ^ n)), .ref q, .ref g]) rfl ?_ ?_
            · rw [← pk_sub (and_bit_le h2)]; rfl
            refine g_callV hC hN [.ref q, .int (nI (i - 2 ^ n)), .long (r2 i)] (c_X0_addProduct hW _ g kd a b c0 ts tn q _ (i - 2 ^ n) (r2 i) hg (hGi _) hq (setP_at _ _ _) e1 e2 e3 e4 (Nat.lt_of_le_of_lt (Nat.sub_le _ _) hi) hts) rfl M_X1_38 gL (hGi _).1 rfl rfl (len_of rfl) (by decide) (by decide) ?_
            rintro r hp1 ⟨rfl, rfl⟩
            refine g_hp ?_ (g_lvs tail ⟨rfl, rfl, rfl, rfl, rfl, trivial⟩)
            rw [setP_setP]
            simp only [elimN]
            rw [if_neg h0, if_neg h2]
          · have h2 : i &&& 2 ^ n = 0 := hz.mp h1
            refine g_run hC 3 rfl ?_
            refine g_callV hC hN [.int (nI i), .long (r2 i)] (c_X1_increase hW _ q i _ (r2 i) hq (setP_at _ _ _) hi) rfl M_X1_34 qL (setP_at _ _ _).1 rfl rfl (len_of rfl) (by decide) (by decide) ?_
            rintro r hp1 ⟨rfl, rfl⟩
            refine g_run hC 2 rfl ?_
            refine g_hp ?_ (g_lvs tail ⟨rfl, rfl, rfl, rfl, rfl, trivial⟩)
            rw [setP_setP]
            simp only [elimN]
            rw [if_neg h0, if_pos h2]
            rfl
  · refine g_run hC 2 rfl ?_
    refine g_icge (tgt := 74) hC rfl (by decide) (fun _ => ?_) (fun h => absurd (Int32.le_refl _) h)
    exact g_ret hC rfl rfl ⟨rfl, rfl⟩ (Nat.le_refl _) (Nat.le_refl _)
end
end
section
section
variable {p : Program} {l : Launch} {e : Env} {R : Room} {s : State} {m : MethodId} {args : Array Value} {below : List Frame} {meth : Method} {c : Code} {D : va_G} {dA ad sa : Nat → Nat} {L : List Nat} {A : Nat → Prop} {nL cells slots : Nat} {Q : State → Prop} {hp : Nat → KE}
/-- any loop: a measure falls -/
theorem g_ind {σ : Type} (μ : σ → Nat) (I : σ → Prop) (hpf : σ → Nat → KE) (lvf : σ → List (Nat × Value)) {pc : Nat} {lv : List (Nat × Value)} {st : List Value} (x0 : σ) (hI : I x0) (h0 : hp = hpf x0) (l0 : lvOK lv (lvf x0))
    (step : ∀ x, I x → (∀ y, I y → μ y < μ x → G p l e R s m args below meth c D dA ad L A nL cells slots Q (hpf y) pc (lvf y) st) → G p l e R s m args below meth c D dA ad L A nL cells slots Q (hpf x) pc (lvf x) st) : G p l e R s m args below meth c D dA ad L A nL cells slots Q hp pc lv st := by
  have key : ∀ n x, I x → μ x < n → G p l e R s m args below meth c D dA ad L A nL cells slots Q (hpf x) pc (lvf x) st := by
    intro n
    induction n with
    | zero => intro x _ h; exact absurd h (Nat.not_lt_zero _)
    | succ n ih => intro x hx h; exact step x hx (fun y hy hyx => ih y hy (by omega))
  subst h0
  exact g_lvs (key (μ x0 + 1) x0 hI (Nat.lt_succ_self _)) l0
end
theorem m1_pred {n : Nat} (h : 0 < n) : nI n + cI (-1) = nI (n - 1) := by
  obtain ⟨k, rfl⟩ : ∃ k, n = k + 1 := ⟨n - 1, by omega⟩
  exact pk_m1 k
section
variable {l : Launch} {D : va_G} {dA ad sa : Nat → Nat} {L : List Nat}
theorem c_X1_monomialAt (hW : KF ad L) (hp : Nat → KE) (q n : Nat) (row : Nat → Int64) (hq : q + 1 < 66) (hP : PolyAt hp q row) (hn : n < 2 ^ 31) : KM l yX1_monomialAt cX1_monomialAt 4 (some .int) (rmK 0 0 0) D dA ad sa L [.ref q, .int (nI n)] hp (fun r hp' => r = some (.int (nI (monAt row 511 n))) ∧ hp' = hp) := by
  refine KM.of rfl ok_X1_monomialAt (len_of rfl) hW.1.1 hW.1.2 ?_
  intro p e s m args below meth c A hC hN
  have qL := hW.2 q (by omega)
  generalize hRR : monAt row 511 n = RR
  refine g_run hC 4 rfl ?_
  refine g_ind (σ := Nat × Nat) (fun x => x.1) (fun x => x.1 < 512 ∧ x.2 < 2 ^ 31 ∧ monAt row x.1 x.2 = RR) (fun _ => hp) (fun x => [(0, .ref q), (2, .int (nI x.2)), (3, .int (nI x.1))]) (511, n) ⟨show (511 : Nat) < 512 by decide, hn, hRR⟩ rfl ⟨rfl, rfl, rfl, trivial⟩ ?_
  rintro ⟨s0, n0⟩ ⟨h1, h2, h3⟩ ih
  dsimp only at h1 h2 h3 ih ⊢
  refine g_run hC 1 rfl ?_
  refine g_ifle (tgt := 36) hC rfl (by decide) (fun h => ?_) (fun h => ?_)
  · have hs : s0 = 0 := by
      have h5 : nI s0 ≤ nI 0 := h
      have := (nI_leI (a := s0) (b := 0) (by omega) (by decide)).mp h5
      omega
    subst hs
    refine g_run hC 1 rfl ?_
    refine g_iret hC rfl rfl ⟨?_, rfl⟩ (Nat.le_refl _) (Nat.le_refl _)
    rw [← h3]; rfl
  · have hs : 0 < s0 := by
      have h5 : ¬ nI s0 ≤ nI 0 := h
      exact Nat.pos_of_ne_zero (fun z => h5 (by rw [z]; exact Int32.le_refl _))
    obtain ⟨s1, rfl⟩ : ∃ k, s0 = k + 1 := ⟨s0 - 1, by omega⟩
    simp only [monAt] at h3
    refine g_run hC 1 rfl ?_
    refine g_get hC rfl F_X1_9 qL hP.1 rfl ?_
    refine g_run hC 1 rfl ?_
    refine g_lld hC (s1 + 1) rfl (hW.2 (q + 1) hq) hP.2 rfl h1 (by decide) ?_
    refine g_run hC 2 rfl ?_
    refine g_ifeq (tgt := 30) hC rfl (by decide) (fun h4 => ?_) (fun h4 => ?_)
    · have h5 : row (s1 + 1) = 0 := (cmpz _).mp h4
      rw [if_pos h5] at h3
      refine g_run hC 2 rfl ?_
      exact g_lvs (ih (s1, n0) ⟨by omega, h2, h3⟩ (by omega)) ⟨rfl, rfl, sI (m1_pred (Nat.succ_pos _)), trivial⟩
    · have h5 : ¬ row (s1 + 1) = 0 := fun z => h4 ((cmpz _).mpr z)
      rw [if_neg h5] at h3
      refine g_run hC 1 rfl ?_
      refine g_ifne (tgt := 27) hC rfl (by decide) (fun h6 => ?_) (fun h6 => ?_)
      · have h7 : ¬ n0 = 0 := fun z => h6 (by rw [z]; rfl)
        rw [if_neg h7] at h3
        refine g_run hC 3 rfl ?_
        exact g_lvs (ih (s1, n0 - 1) ⟨by omega, by omega, h3⟩ (by omega)) ⟨rfl, sI (m1_pred (by omega)), sI (m1_pred (Nat.succ_pos _)), trivial⟩
      · have h7 : n0 = 0 := (nI_z h2).mp h6
        rw [if_pos h7] at h3
        refine g_run hC 1 rfl ?_
        refine g_iret hC rfl rfl ⟨?_, rfl⟩ (Nat.le_refl _) (Nat.le_refl _)
        rw [← h3]
theorem c_X1_least (hW : KF ad L) (hp : Nat → KE) (q : Nat) (row : Nat → Int64) (hq : q + 1 < 66) (hP : PolyAt hp q row) : KM l yX1_leastMonomialOfFewestWires cX1_leastMonomialOfFewestWires 4 (some .int) (rmK 1 0 0) D dA ad sa L [.ref q] hp (fun r hp' => r = some (.int (nI (lmN row 512).1)) ∧ hp' = hp) := by
  refine KM.of rfl ok_X1_leastMonomialOfFewestWires (len_of rfl) hW.1.1 hW.1.2 ?_
  intro p e s m args below meth c A hC hN
  have qL := hW.2 q (by omega)
  refine g_run hC 6 rfl ?_
  refine g_loop 0 512 (fun _ => hp) (fun i => [(0, .ref q), (1, .int (nI (lmN row i).1)), (2, .int (nI (lmN row i).2)), (3, .int (nI i))]) (Nat.zero_le _) rfl ⟨rfl, rfl, rfl, rfl, trivial⟩ ?_ ?_
  · intro i _ hi ih
    have hlt := lmN_lt row i
    refine g_run hC 2 rfl ?_
    refine g_icge (tgt := 46) hC rfl (by decide) (fun h => ?_) (fun _ => ?_)
    · exact absurd ((nI_leI (a := 512) (b := i) (by decide) (by omega)).mp h) (by omega)
    · refine g_run hC 1 rfl ?_
      refine g_get hC rfl F_X1_9 qL hP.1 rfl ?_
      refine g_run hC 1 rfl ?_
      refine g_lld hC i rfl (hW.2 (q + 1) hq) hP.2 rfl hi (by decide) ?_
      refine g_run hC 2 rfl ?_
      refine g_cut hp 40 [(0, .ref q), (1, .int (nI (lmN row (i + 1)).1)), (2, .int (nI (lmN row (i + 1)).2)), (3, .int (nI i))] [] ?_ (fun tail => ?_)
      · refine g_run hC 2 rfl ?_
        exact g_lvs ih ⟨rfl, rfl, rfl, sI (nI_s i), trivial⟩
      · refine g_ifeq (tgt := 40) hC rfl (by decide) (fun h => ?_) (fun h => ?_)
        · have h0 : row i = 0 := (cmpz _).mp h
          have e1 : lmN row (i + 1) = lmN row i := by simp only [lmN]; rw [if_pos h0]
          rw [e1] at tail
          exact g_lvs tail ⟨rfl, rfl, rfl, rfl, trivial⟩
        · have h0 : ¬ row i = 0 := fun z => h ((cmpz _).mpr z)
          refine g_run hC 1 rfl ?_
          refine g_callS hC hN [.int (nI i)] (c_bitCount hW hp (nI i)) rfl M_X1_44 rfl (len_of rfl) (by decide) (by decide) ?_
          rintro r hp1 ⟨rfl, rfl⟩
          refine g_top (nI (popN i)) (popN_eq i hi) ?_
          refine g_run hC 1 rfl ?_
          refine g_icge (tgt := 40) hC rfl (by decide) (fun h1 => ?_) (fun h1 => ?_)
          · have h2 := (nI_leI (a := (lmN row i).2) (b := popN i) (by omega) (by have := popN_lt i; omega)).mp h1
            have e1 : lmN row (i + 1) = lmN row i := by simp only [lmN]; rw [if_neg h0, if_neg (by omega)]
            rw [e1] at tail
            exact g_lvs tail ⟨rfl, rfl, rfl, rfl, trivial⟩
          · have h2 : ¬ (lmN row i).2 ≤ popN i := fun z => h1 ((nI_leI (a := (lmN row i).2) (b := popN i) (by omega) (by have := popN_lt i; omega)).mpr z)
            have e1 : lmN row (i + 1) = (i, popN i) := by simp only [lmN]; rw [if_neg h0, if_pos (by omega)]
            rw [e1] at tail
            refine g_run hC 3 rfl ?_
            refine g_callS hC hN [.int (nI i)] (c_bitCount hW hp1 (nI i)) rfl M_X1_44 rfl (len_of rfl) (by decide) (by decide) ?_
            rintro r hp2 ⟨rfl, rfl⟩
            refine g_top (nI (popN i)) (popN_eq i hi) ?_
            refine g_run hC 1 rfl ?_
            exact g_lvs tail ⟨rfl, rfl, rfl, rfl, trivial⟩
  · refine g_run hC 2 rfl ?_
    refine g_icge (tgt := 46) hC rfl (by decide) (fun _ => ?_) (fun h => absurd (Int32.le_refl _) h)
    refine g_run hC 1 rfl ?_
    exact g_iret hC rfl rfl ⟨rfl, rfl⟩ (Nat.le_refl _) (Nat.le_refl _)
theorem c_X1_valueWhere (hW : KF ad L) (hp : Nat → KE) (q o : Nat) (row : Nat → Int64) (hq : q + 1 < 66) (hP : PolyAt hp q row) : KM l yX1_valueWhere cX1_valueWhere 5 (some .long) (rmK 0 0 0) D dA ad sa L [.ref q, .int (nI o)] hp (fun r hp' => r = some (.long (vsN row o 512)) ∧ hp' = hp) := by
  refine KM.of rfl ok_X1_valueWhere (len_of rfl) hW.1.1 hW.1.2 ?_
  intro p e s m args below meth c A hC hN
  have qL := hW.2 q (by omega)
  refine g_run hC 4 rfl ?_
  refine g_loop 0 512 (fun _ => hp) (fun i => [(0, .ref q), (1, .int (nI o)), (2, .long (vsN row o i)), (4, .int (nI i))]) (Nat.zero_le _) rfl ⟨rfl, rfl, rfl, rfl, trivial⟩ ?_ ?_
  · intro i _ hi ih
    refine g_run hC 2 rfl ?_
    refine g_icge (tgt := 38) hC rfl (by decide) (fun h => ?_) (fun _ => ?_)
    · exact absurd ((nI_leI (a := 512) (b := i) (by decide) (by omega)).mp h) (by omega)
    · refine g_run hC 5 rfl ?_
      refine g_cut hp 32 [(0, .ref q), (1, .int (nI o)), (2, .long (vsN row o (i + 1))), (4, .int (nI i))] [] ?_ (fun tail => ?_)
      · refine g_run hC 2 rfl ?_
        exact g_lvs ih ⟨rfl, rfl, rfl, sI (nI_s i), trivial⟩
      · refine g_ifne (tgt := 32) hC rfl (by decide) (fun h => ?_) (fun h => ?_)
        · have h0 : ¬ i &&& o = i := fun z => h ((andnot i o hi).mpr z)
          refine g_lvs tail ⟨rfl, rfl, sJ ?_, rfl, trivial⟩
          simp only [vsN]
          rw [if_neg h0]
        · have h0 : i &&& o = i := (andnot i o hi).mp h
          refine g_run hC 2 rfl ?_
          refine g_get hC rfl F_X1_9 qL hP.1 rfl ?_
          refine g_run hC 1 rfl ?_
          refine g_lld hC i rfl (hW.2 (q + 1) hq) hP.2 rfl hi (by decide) ?_
          refine g_run hC 2 rfl ?_
          refine g_lvs tail ⟨rfl, rfl, sJ ?_, rfl, trivial⟩
          simp only [vsN]
          rw [if_pos h0]
  · refine g_run hC 2 rfl ?_
    refine g_icge (tgt := 38) hC rfl (by decide) (fun _ => ?_) (fun h => absurd (Int32.le_refl _) h)
    refine g_run hC 1 rfl ?_
    exact g_lret hC rfl rfl ⟨rfl, rfl⟩ (Nat.le_refl _) (Nat.le_refl _)
theorem c_X1_isSameAs (hW : KF ad L) (hp : Nat → KE) (q q2 : Nat) (row r2 : Nat → Int64) (hq : q + 1 < 66) (hP : PolyAt hp q row) (hq2 : q2 + 1 < 66) (hP2 : PolyAt hp q2 r2) : KM l yX1_isSameAs cX1_isSameAs 3 (some .boolean) (rmK 0 0 0) D dA ad sa L [.ref q, .ref q2] hp (fun r hp' => r = some (.int (bI (eqR row r2))) ∧ hp' = hp) := by
  refine KM.of rfl ok_X1_isSameAs (len_of rfl) hW.1.1 hW.1.2 ?_
  intro p e s m args below meth c A hC hN
  have qL := hW.2 q (by omega)
  have qL2 := hW.2 q2 (by omega)
  refine g_run hC 1 rfl ?_
  refine g_get hC rfl F_X1_21 qL hP.1 rfl ?_
  refine g_run hC 1 rfl ?_
  refine g_get hC rfl F_X1_21 qL2 hP2.1 rfl ?_
  refine g_iceq (tgt := 13) hC rfl (by decide) (fun h => ?_) (fun h => ?_)
  · refine g_run hC 2 rfl ?_
    refine g_ind (σ := Nat) (fun x => 512 - x) (fun x => x ≤ 512 ∧ ∀ i, i < x → row i = r2 i) (fun _ => hp) (fun i => [(0, .ref q), (1, .ref q2), (2, .int (nI i))]) 0 ⟨by decide, fun i hi => absurd hi (Nat.not_lt_zero i)⟩ rfl ⟨rfl, rfl, rfl, trivial⟩ ?_
    rintro i ⟨hi, hpre⟩ ih
    refine g_run hC 2 rfl ?_
    refine g_icge (tgt := 46) hC rfl (by decide) (fun h1 => ?_) (fun h1 => ?_)
    · have h2 := (nI_leI (a := 512) (b := i) (by decide) (by omega)).mp h1
      refine g_run hC 1 rfl ?_
      refine g_zret hC rfl rfl rfl ⟨?_, rfl⟩ (Nat.le_refl _) (Nat.le_refl _)
      have e1 : eqR row r2 = true := eqN_iff.mpr (fun j hj => hpre j (by omega))
      rw [e1]; rfl
    · have h2 : ¬ 512 ≤ i := fun z => h1 ((nI_leI (a := 512) (b := i) (by decide) (by omega)).mpr z)
      refine g_run hC 1 rfl ?_
      refine g_get hC rfl F_X1_9 qL hP.1 rfl ?_
      refine g_run hC 1 rfl ?_
      refine g_lld hC i rfl (hW.2 (q + 1) hq) hP.2 rfl (by omega) (by decide) ?_
      refine g_run hC 1 rfl ?_
      refine g_get hC rfl F_X1_9 qL2 hP2.1 rfl ?_
      refine g_run hC 1 rfl ?_
      refine g_lld hC i rfl (hW.2 (q2 + 1) hq2) hP2.2 rfl (by omega) (by decide) ?_
      refine g_run hC 1 rfl ?_
      refine g_ifeq (tgt := 40) hC rfl (by decide) (fun h3 => ?_) (fun h3 => ?_)
      · refine g_run hC 2 rfl ?_
        refine g_lvs (ih (i + 1) ⟨by omega, fun j hj => ?_⟩ (by omega)) ⟨rfl, rfl, sI (nI_s i), trivial⟩
        by_cases hji : j = i
        · subst hji; exact (cmp0 _ _).mp h3
        · exact hpre j (by omega)
      · refine g_run hC 1 rfl ?_
        refine g_zret hC rfl rfl rfl ⟨?_, rfl⟩ (Nat.le_refl _) (Nat.le_refl _)
        have e1 : eqR row r2 = false := by
          cases hq9 : eqR row r2 with
          | false => rfl
          | true => exact absurd ((cmp0 _ _).mpr (eqN_iff.mp hq9 i (by omega))) h3
        rw [e1]; rfl
  · refine g_run hC 1 rfl ?_
    refine g_zret hC rfl rfl rfl ⟨?_, rfl⟩ (Nat.le_refl _) (Nat.le_refl _)
    have e1 : eqR row r2 = false := by
      cases hq9 : eqR row r2 with
      | false => rfl
      | true => exact absurd (congrArg nI (cntN_congr (eqN_iff.mp hq9))) h
    rw [e1]; rfl
end
end
section
abbrev GT : Type := Nat × Nat × Nat × Nat × (Nat → Nat) × (Nat → Int64)
def XObj (n inp an lc : Nat) : KE := kO 2 [.ref 1, .int (nI n), .int (nI inp), .ref 2, .int (nI an), .ref 4, .int (nI lc), .ref 5]
def GA (hp : Nat → KE) (g : Nat) (t : GT) : Prop := GateAt hp g t.1 t.2.1 t.2.2.1 t.2.2.2.1 t.2.2.2.2.1 t.2.2.2.2.2
/-- the component's objects -/
def XR (hp : Nat → KE) (n inp an lc : Nat) (cl ex : Nat → Int64) (pr : Nat → Nat → Int64) (gt : Nat → GT) : Prop :=
  hp 0 = XObj n inp an lc ∧ hp 1 = kQ 2 9 (fun i => some (7 + 3 * i)) ∧ hp 4 = kQ 3 10 (fun i => some (34 + 2 * i)) ∧ PolyAt hp 2 cl ∧ PolyAt hp 5 ex ∧ (∀ i, i < 10 → PolyAt hp (34 + 2 * i) (pr i)) ∧ (∀ i, i < 9 → GA hp (7 + 3 * i) (gt i))
def FX (hp hp' : Nat → KE) : Prop := ∀ k, 54 ≤ k → hp' k = hp k
theorem FX.rf {hp : Nat → KE} : FX hp hp := fun _ _ => rfl
theorem FX.tr {a b c : Nat → KE} (h1 : FX a b) (h2 : FX b c) : FX a c := fun k hk => (h2 k hk).trans (h1 k hk)
theorem FX.up {hp : Nat → KE} {q : Nat} {x : KE} (h : q < 54) : FX hp (va_up hp q x) := fun k hk => va_up_ne _ _ (by omega)
theorem FX.setP {hp : Nat → KE} {q : Nat} {r : Nat → Int64} (h : q + 1 < 54) : FX hp (setP hp q r) := fun k hk => setP_ne (by omega) (by omega)
theorem PolyAt.up {hp : Nat → KE} {q k : Nat} {r : Nat → Int64} {x : KE} (h : PolyAt hp q r) (h1 : q ≠ k) (h2 : q + 1 ≠ k) : PolyAt (va_up hp k x) q r := ⟨(va_up_ne _ _ h1).trans h.1, (va_up_ne _ _ h2).trans h.2⟩
theorem GA.up {hp : Nat → KE} {g k : Nat} {t : GT} {x : KE} (h : GA hp g t) (h1 : g ≠ k) (h2 : g + 1 ≠ k) (h3 : g + 2 ≠ k) : GA (va_up hp k x) g t := ⟨(va_up_ne _ _ h1).trans h.1, (va_up_ne _ _ h2).trans h.2.1, (va_up_ne _ _ h3).trans h.2.2⟩
section
variable {hp : Nat → KE} {n inp an lc n2 inp2 an2 lc2 : Nat} {cl ex r : Nat → Int64} {pr : Nat → Nat → Int64} {gt : Nat → GT}
theorem XR.obj (h : XR hp n inp an lc cl ex pr gt) : XR (va_up hp 0 (XObj n2 inp2 an2 lc2)) n2 inp2 an2 lc2 cl ex pr gt :=
  ⟨va_up_self _ _ _, (va_up_ne _ _ (by omega)).trans h.2.1, (va_up_ne _ _ (by omega)).trans h.2.2.1, h.2.2.2.1.up (by omega) (by omega), h.2.2.2.2.1.up (by omega) (by omega), fun i hi => (h.2.2.2.2.2.1 i hi).up (by omega) (by omega), fun i hi => (h.2.2.2.2.2.2 i hi).up (by omega) (by omega) (by omega)⟩
theorem GA.keep {g q : Nat} {t : GT} (h : GA hp g t) (h1 : g ≠ q) (h2 : g ≠ q + 1) (h3 : g + 1 ≠ q) (h4 : g + 2 ≠ q) : GA (setP hp q r) g t := GateAt.keep h h1 h2 h3 h4 (by omega)
theorem XR.setcl (h : XR hp n inp an lc cl ex pr gt) : XR (setP hp 2 r) n inp an lc r ex pr gt :=
  ⟨(setP_ne (by omega) (by omega)).trans h.1, (setP_ne (by omega) (by omega)).trans h.2.1, (setP_ne (by omega) (by omega)).trans h.2.2.1, setP_at _ _ _, h.2.2.2.2.1.keep (by omega) (by omega) (by omega), fun i hi => (h.2.2.2.2.2.1 i hi).keep (by omega) (by omega) (by omega), fun i hi => (h.2.2.2.2.2.2 i hi).keep (by omega) (by omega) (by omega) (by omega)⟩
theorem XR.setex (h : XR hp n inp an lc cl ex pr gt) : XR (setP hp 5 r) n inp an lc cl r pr gt :=
  ⟨(setP_ne (by omega) (by omega)).trans h.1, (setP_ne (by omega) (by omega)).trans h.2.1, (setP_ne (by omega) (by omega)).trans h.2.2.1, h.2.2.2.1.keep (by omega) (by omega) (by omega), setP_at _ _ _, fun i hi => (h.2.2.2.2.2.1 i hi).keep (by omega) (by omega) (by omega), fun i hi => (h.2.2.2.2.2.2 i hi).keep (by omega) (by omega) (by omega) (by omega)⟩
theorem XR.setpr {j : Nat} (h : XR hp n inp an lc cl ex pr gt) (hj : j < 10) : XR (setP hp (34 + 2 * j) r) n inp an lc cl ex (va_up pr j r) gt := by
  refine ⟨(setP_ne (by omega) (by omega)).trans h.1, (setP_ne (by omega) (by omega)).trans h.2.1, (setP_ne (by omega) (by omega)).trans h.2.2.1, h.2.2.2.1.keep (by omega) (by omega) (by omega), h.2.2.2.2.1.keep (by omega) (by omega) (by omega), fun i hi => ?_, fun i hi => (h.2.2.2.2.2.2 i hi).keep (by omega) (by omega) (by omega) (by omega)⟩
  by_cases hij : i = j
  · subst hij; rw [va_up_self]; exact setP_at _ _ _
  · rw [va_up_ne _ _ hij]; exact (h.2.2.2.2.2.1 i hi).keep (by omega) (by omega) (by omega)
theorem setGate_ne {g k kd a b c : Nat} {ts : Nat → Nat} {tn : Nat → Int64} (h0 : k ≠ g) (h1 : k ≠ g + 1) (h2 : k ≠ g + 2) : setGate hp g kd a b c ts tn k = hp k := by unfold setGate; rw [setG_ne h1 h2, va_up_ne _ _ h0]
theorem XR.setgt {j kd a b c : Nat} {ts : Nat → Nat} {tn : Nat → Int64} (h : XR hp n inp an lc cl ex pr gt) (hj : j < 9) : XR (setGate hp (7 + 3 * j) kd a b c ts tn) n inp an lc cl ex pr (va_up gt j (kd, a, b, c, ts, tn)) := by
  have hP : ∀ q rr, q + 1 < 7 ∨ 34 ≤ q → PolyAt hp q rr → PolyAt (setGate hp (7 + 3 * j) kd a b c ts tn) q rr := fun q rr hq h => ⟨(setGate_ne (by omega) (by omega) (by omega)).trans h.1, (setGate_ne (by omega) (by omega) (by omega)).trans h.2⟩
  refine ⟨(setGate_ne (by omega) (by omega) (by omega)).trans h.1, (setGate_ne (by omega) (by omega) (by omega)).trans h.2.1, (setGate_ne (by omega) (by omega) (by omega)).trans h.2.2.1, hP _ _ (by omega) h.2.2.2.1, hP _ _ (by omega) h.2.2.2.2.1, fun i hi => hP _ _ (by omega) (h.2.2.2.2.2.1 i hi), fun i hi => ?_⟩
  by_cases hij : i = j
  · subst hij; rw [va_up_self]; exact setGate_at _ _ _ _ _ _ _ _
  · rw [va_up_ne _ _ hij]
    have h9 := h.2.2.2.2.2.2 i hi
    exact ⟨(setGate_ne (by omega) (by omega) (by omega)).trans h9.1, (setGate_ne (by omega) (by omega) (by omega)).trans h9.2.1, (setGate_ne (by omega) (by omega) (by omega)).trans h9.2.2⟩
end
def setB (n : Nat) (x : Int32) : Bool := decide (0 ≤ x) && decide (x < nI (2 ^ n))
def litB (n : Nat) (x : Int32) : Bool := decide (0 ≤ x) && decide (x ≤ nI (2 * n + 1))
theorem p2_lt {n : Nat} (h : n ≤ 9) : 2 ^ n ≤ 512 := Nat.pow_le_pow_right (by decide) h
theorem setB_iff {n : Nat} {x : Int32} (h : n ≤ 9) : setB n x = true ↔ ∃ k, k < 2 ^ n ∧ x = nI k := by
  have h2 := p2_lt h
  unfold setB
  simp only [Bool.and_eq_true, decide_eq_true_eq]
  constructor
  · rintro ⟨h1, h3⟩
    rcases pk_ix x (n := 2 ^ n) (by omega) with h4 | h4 | ⟨j, hj, e⟩
    · exact absurd h1 (Int32.not_le.mpr h4)
    · exact absurd h3 (Int32.not_lt.mpr h4)
    · exact ⟨j, hj, e⟩
  · rintro ⟨k, hk, rfl⟩
    exact ⟨nI_pos' (by omega), nI_lt hk (by omega)⟩
theorem litB_iff {n : Nat} {x : Int32} (h : n ≤ 9) : litB n x = true ↔ ∃ k, k < 2 * n + 2 ∧ x = nI k := by
  unfold litB
  simp only [Bool.and_eq_true, decide_eq_true_eq]
  constructor
  · rintro ⟨h1, h3⟩
    rcases pk_ix x (n := 2 * n + 2) (by omega) with h4 | h4 | ⟨j, hj, e⟩
    · exact absurd h1 (Int32.not_le.mpr h4)
    · have h5 : nI (2 * n + 2) ≤ nI (2 * n + 1) := Int32.le_trans h4 h3
      exact absurd ((nI_leI (by omega) (by omega)).mp h5) (by omega)
    · exact ⟨j, hj, e⟩
  · rintro ⟨k, hk, rfl⟩
    exact ⟨nI_pos' (by omega), nI_le (by omega) (by omega)⟩
def ISE : String := "java/lang/IllegalStateException"
def IAE : String := "java/lang/IllegalArgumentException"
def IOB : String := "java/lang/IndexOutOfBoundsException"
def AEX : String := "java/lang/ArithmeticException"
def NSE : String := "java/util/NoSuchElementException"
def simN (inp : Nat) (gt : Nat → GT) (o : Nat) : Nat → Nat
  | 0 => o
  | w + 1 => if inp &&& 2 ^ w = 0 ∧ outc (gt w).1 (litW (gt w).2.1 (simN inp gt o w)) (litW (gt w).2.2.1 (simN inp gt o w)) (litW (gt w).2.2.2.1 (simN inp gt o w)) = 1 then simN inp gt o w ||| 2 ^ w else simN inp gt o w
def gGood (i : Nat) (t : GT) : Prop := t.1 < 4 ∧ t.2.1 < 2 * i + 2 ∧ t.2.2.1 < 2 * i + 2 ∧ t.2.2.2.1 < 2 * i + 2 ∧ t.2.2.2.2.1 = gV t.2.1 t.2.2.1 t.2.2.2.1 ∧ t.2.2.2.2.2 = gT t.1 t.2.1 t.2.2.1 t.2.2.2.1
def XG (n inp : Nat) (gt : Nat → GT) : Prop := n ≤ 9 ∧ inp < 2 ^ n ∧ ∀ i, i < n → inp &&& 2 ^ i = 0 → gGood i (gt i)
theorem simN_lt {inp o : Nat} {gt : Nat → GT} (ho : o < 512) : ∀ w, w ≤ 9 → simN inp gt o w < 512
  | 0, _ => ho
  | w + 1, h => by
    have ih := simN_lt (inp := inp) (gt := gt) ho w (by omega)
    simp only [simN]
    split
    · exact or_lt9 ih (Nat.pow_lt_pow_of_lt (by decide) (show w < 9 by omega))
    · exact ih
section
variable {l : Launch} {D : va_G} {dA ad sa : Nat → Nat} {L : List Nat} {hp : Nat → KE} {n inp an lc : Nat} {cl ex : Nat → Int64} {pr : Nat → Nat → Int64} {gt : Nat → GT}
theorem c_X2_isSet (hW : KF ad L) (h : XR hp n inp an lc cl ex pr gt) (hn : n ≤ 9) (x : Int32) : KM l yX2_isSet cX2_isSet 2 (some .boolean) (rmK 0 0 0) D dA ad sa L [.ref 0, .int x] hp (fun r hp' => r = some (.int (bI (setB n x))) ∧ hp' = hp) := by
  refine KM.of rfl ok_X2_isSet (len_of rfl) hW.1.1 hW.1.2 ?_
  intro p e s m args below meth c A hC hN
  have h0 := hW.2 0 (by decide)
  refine g_run hC 1 rfl ?_
  refine g_iflt (tgt := 18) hC rfl (by decide) (fun h1 => ?_) (fun h1 => ?_)
  · refine g_run hC 1 rfl ?_
    refine g_zret hC rfl rfl rfl ⟨?_, rfl⟩ (Nat.le_refl _) (Nat.le_refl _)
    unfold setB
    rw [decide_eq_false (Int32.not_le.mpr h1)]; rfl
  · refine g_run hC 3 rfl ?_
    refine g_get hC rfl F_X2_37 h0 h.1 rfl ?_
    refine g_run hC 1 rfl ?_
    refine g_top (nI (2 ^ n)) (shl_1 n (by omega)) ?_
    refine g_icge (tgt := 18) hC rfl (by decide) (fun h2 => ?_) (fun h2 => ?_)
    · refine g_run hC 1 rfl ?_
      refine g_zret hC rfl rfl rfl ⟨?_, rfl⟩ (Nat.le_refl _) (Nat.le_refl _)
      unfold setB
      rw [decide_eq_false (p := x < nI (2 ^ n)) (Int32.not_lt.mpr h2), Bool.and_false]; rfl
    · refine g_run hC 2 rfl ?_
      refine g_zret hC rfl rfl rfl ⟨?_, rfl⟩ (Nat.le_refl _) (Nat.le_refl _)
      unfold setB
      rw [decide_eq_true (Int32.not_lt.mp h1), decide_eq_true (Int32.not_le.mp h2)]; rfl
theorem c_X2_isLiteral (hW : KF ad L) (h : XR hp n inp an lc cl ex pr gt) (x : Int32) : KM l yX2_isLiteral cX2_isLiteral 2 (some .boolean) (rmK 0 0 0) D dA ad sa L [.ref 0, .int x] hp (fun r hp' => r = some (.int (bI (litB n x))) ∧ hp' = hp) := by
  refine KM.of rfl ok_X2_isLiteral (len_of rfl) hW.1.1 hW.1.2 ?_
  intro p e s m args below meth c A hC hN
  have h0 := hW.2 0 (by decide)
  refine g_run hC 1 rfl ?_
  refine g_iflt (tgt := 20) hC rfl (by decide) (fun h1 => ?_) (fun h1 => ?_)
  · refine g_run hC 1 rfl ?_
    refine g_zret hC rfl rfl rfl ⟨?_, rfl⟩ (Nat.le_refl _) (Nat.le_refl _)
    unfold litB
    rw [decide_eq_false (Int32.not_le.mpr h1)]; rfl
  · refine g_run hC 3 rfl ?_
    refine g_get hC rfl F_X2_37 h0 h.1 rfl ?_
    refine g_run hC 3 rfl ?_
    refine g_top (nI (2 * n + 1)) ?_ ?_
    · show nI 2 * nI n + nI 1 = _
      rw [pk_mul, nI_add]
    refine g_icgt (tgt := 20) hC rfl (by decide) (fun h2 => ?_) (fun h2 => ?_)
    · refine g_run hC 1 rfl ?_
      refine g_zret hC rfl rfl rfl ⟨?_, rfl⟩ (Nat.le_refl _) (Nat.le_refl _)
      unfold litB
      rw [decide_eq_false (p := x ≤ nI (2 * n + 1)) (Int32.not_le.mpr h2), Bool.and_false]; rfl
    · refine g_run hC 2 rfl ?_
      refine g_zret hC rfl rfl rfl ⟨?_, rfl⟩ (Nat.le_refl _) (Nat.le_refl _)
      unfold litB
      rw [decide_eq_true (Int32.not_lt.mp h1), decide_eq_true (Int32.not_lt.mp h2)]; rfl
theorem c_X2_isGate (hW : KF ad L) (h : XR hp n inp an lc cl ex pr gt) (w : Nat) (hi : inp < 512) (hw : w < 9) : KM l yX2_isGate cX2_isGate 2 (some .boolean) (rmK 1 0 0) D dA ad sa L [.ref 0, .int (nI (w + 1))] hp (fun r hp' => r = some (.int (bI (decide (inp &&& 2 ^ w = 0)))) ∧ hp' = hp) := by
  refine KM.of rfl ok_X2_isGate (len_of rfl) hW.1.1 hW.1.2 ?_
  intro p e s m args below meth c A hC hN
  have h0 := hW.2 0 (by decide)
  refine g_run hC 1 rfl ?_
  refine g_get hC rfl F_X2_33 h0 h.1 rfl ?_
  refine g_run hC 1 rfl ?_
  refine g_callS hC hN [.int (nI (w + 1))] (c_X2_bitOf hW hp (w + 1) (by omega) (by omega)) rfl M_X2_40 rfl (len_of rfl) (by decide) (by decide) ?_
  rintro r hp1 ⟨rfl, rfl⟩
  refine g_run hC 1 rfl ?_
  refine g_top (nI (inp &&& 2 ^ w)) (nI_and _ _) ?_
  have hz := nI_z (n := inp &&& 2 ^ w) (Nat.lt_of_le_of_lt Nat.and_le_left (by omega))
  refine g_ifne (tgt := 16) hC rfl (by decide) (fun h1 => ?_) (fun h1 => ?_)
  · refine g_run hC 1 rfl ?_
    refine g_zret hC rfl rfl rfl ⟨?_, rfl⟩ (Nat.le_refl _) (Nat.le_refl _)
    rw [decide_eq_false (fun z => h1 (hz.mpr z))]; rfl
  · refine g_run hC 2 rfl ?_
    refine g_zret hC rfl rfl rfl ⟨?_, rfl⟩ (Nat.le_refl _) (Nat.le_refl _)
    rw [decide_eq_true (hz.mp h1)]; rfl
theorem c_X2_dropProof (hW : KF ad L) (h : XR hp n inp an lc cl ex pr gt) : KM l yX2_dropProof cX2_dropProof 1 none (rmK 0 0 0) D dA ad sa L [.ref 0] hp (fun r hp' => r = none ∧ XR hp' n inp an 0 cl ex pr gt ∧ FX hp hp') := by
  refine KM.of rfl ok_X2_dropProof (len_of rfl) hW.1.1 hW.1.2 ?_
  intro p e s m args below meth c A hC hN
  refine g_run hC 2 rfl ?_
  refine g_putI hC rfl F_X2_113 (hW.2 0 (by decide)) h.1 (len_of rfl) rfl rfl ?_
  exact g_ret hC rfl rfl ⟨rfl, h.obj (lc2 := 0), FX.up (by decide)⟩ (Nat.le_refl _) (Nat.le_refl _)
theorem c_X2_countNewWire (hW : KF ad L) (h : XR hp n inp an lc cl ex pr gt) : KM l yX2_countNewWire cX2_countNewWire 1 (some .int) (rmK 1 0 0) D dA ad sa L [.ref 0] hp (fun r hp' => r = some (.int (nI (n + 1))) ∧ XR hp' (n + 1) inp an 0 cl ex pr gt ∧ FX hp hp') := by
  refine KM.of rfl ok_X2_countNewWire (len_of rfl) hW.1.1 hW.1.2 ?_
  intro p e s m args below meth c A hC hN
  have h0 := hW.2 0 (by decide)
  refine g_run hC 2 rfl ?_
  refine g_get hC rfl F_X2_37 h0 h.1 rfl ?_
  refine g_run hC 2 rfl ?_
  refine g_top (nI (n + 1)) (nI_s n) ?_
  refine g_putI hC rfl F_X2_37 h0 h.1 (len_of rfl) rfl rfl ?_
  have h1 : XR (va_up hp 0 (XObj (n + 1) inp an lc)) (n + 1) inp an lc cl ex pr gt := h.obj
  refine g_run hC 1 rfl ?_
  refine g_callV hC hN [] (c_X2_dropProof hW h1) rfl M_X2_80 h0 h1.1 rfl rfl (len_of rfl) (by decide) (by decide) ?_
  rintro r hp1 ⟨rfl, h2, h3⟩
  refine g_run hC 1 rfl ?_
  refine g_get hC rfl F_X2_37 h0 h2.1 rfl ?_
  exact g_iret hC rfl rfl ⟨rfl, h2, (FX.up (by decide)).tr h3⟩ (Nat.le_refl _) (Nat.le_refl _)
theorem c_X2_ones (hW : KF ad L) (h : XR hp n inp an lc cl ex pr gt) (hg : XG n inp gt) (o : Nat) (ho : o < 512) : KM l yX2_wiresThatAreOne cX2_wiresThatAreOne 4 (some .int) (rmK 4 0 0) D dA ad sa L [.ref 0, .int (nI o)] hp (fun r hp' => r = some (.int (nI (simN inp gt o n))) ∧ hp' = hp) := by
  refine KM.of rfl ok_X2_wiresThatAreOne (len_of rfl) hW.1.1 hW.1.2 ?_
  intro p e s m args below meth c A hC hN
  obtain ⟨hn, hi, hgd⟩ := hg
  have hi5 : inp < 512 := Nat.lt_of_lt_of_le hi (p2_lt hn)
  have h0 := hW.2 0 (by decide)
  refine g_run hC 4 rfl ?_
  refine g_loop 0 n (fun _ => hp) (fun i => [(0, .ref 0), (2, .int (nI (simN inp gt o i))), (3, .int (nI (i + 1)))]) (Nat.zero_le _) rfl ⟨rfl, rfl, rfl, trivial⟩ ?_ ?_
  · intro i _ hin ih
    have ho1 := simN_lt (inp := inp) (gt := gt) ho i (by omega)
    refine g_run hC 2 rfl ?_
    refine g_get hC rfl F_X2_37 h0 h.1 rfl ?_
    refine g_icgt (tgt := 49) hC rfl (by decide) (fun h1 => ?_) (fun _ => ?_)
    · exact absurd ((nI_ltI (a := n) (b := i + 1) (by omega) (by omega)).mp h1) (by omega)
    · refine g_run hC 2 rfl ?_
      refine g_callV hC hN [.int (nI (i + 1))] (c_X2_isGate hW h i hi5 (by omega)) rfl M_X2_98 h0 h.1 rfl rfl (len_of rfl) (by decide) (by decide) ?_
      rintro r hp1 ⟨rfl, rfl⟩
      refine g_cut hp1 43 [(0, .ref 0), (2, .int (nI (simN inp gt o (i + 1)))), (3, .int (nI (i + 1)))] [] ?_ (fun tail => ?_)
      · refine g_run hC 2 rfl ?_
        exact g_lvs ih ⟨rfl, rfl, sI (nI_s (i + 1)), trivial⟩
      · by_cases hb : inp &&& 2 ^ i = 0
        · rw [decide_eq_true hb]
          obtain ⟨g1, g2, g3, g4, -, -⟩ := hgd i hin hb
          refine g_ifeq (tgt := 43) hC rfl (by decide) (fun h1 => ?_) (fun _ => ?_)
          · exact absurd h1 (by decide)
          · refine g_run hC 1 rfl ?_
            refine g_get hC rfl F_X2_11 h0 h.1 rfl ?_
            refine g_run hC 3 rfl ?_
            refine g_ald (C := RX0) (t := 2) hC i rfl (hW.2 1 (by decide)) h.2.1 rfl (pk_sub (a := i + 1) (b := 1) (by omega)) (by omega) (by decide) rfl ?_
            refine g_run hC 1 rfl ?_
            have hga := h.2.2.2.2.2.2 i (by omega)
            refine g_callV hC hN [.int (nI (simN inp gt o i))] (c_X0_valueWhere hW hp1 (7 + 3 * i) _ _ _ _ _ _ _ (by omega) hga g1 (by omega) (by omega) (by omega) ho1) rfl M_X2_162 (hW.2 _ (by omega)) hga.1 rfl rfl (len_of rfl) (by decide) (by decide) ?_
            rintro r hp2 ⟨rfl, rfl⟩
            refine g_run hC 1 rfl ?_
            have hol := outc_lt (kd := (gt i).1) (x := litW (gt i).2.1 (simN inp gt o i)) (y := litW (gt i).2.2.1 (simN inp gt o i)) (z := litW (gt i).2.2.2.1 (simN inp gt o i)) litW_lt litW_lt litW_lt
            refine g_icne (tgt := 43) hC rfl (by decide) (fun h2 => ?_) (fun h2 => ?_)
            · refine g_lvs tail ⟨rfl, sI ?_, rfl, trivial⟩
              have h3 : ¬ outc (gt i).1 (litW (gt i).2.1 (simN inp gt o i)) (litW (gt i).2.2.1 (simN inp gt o i)) (litW (gt i).2.2.2.1 (simN inp gt o i)) = 1 := fun z => h2 (by rw [z]; rfl)
              simp only [simN]
              rw [if_neg (fun z => h3 z.2)]
            · have h3 : outc (gt i).1 (litW (gt i).2.1 (simN inp gt o i)) (litW (gt i).2.2.1 (simN inp gt o i)) (litW (gt i).2.2.2.1 (simN inp gt o i)) = 1 := (nI_eq (b := 1) (by omega) (by decide)).mp h2
              refine g_run hC 2 rfl ?_
              refine g_callS hC hN [.int (nI (i + 1))] (c_X2_bitOf hW hp2 (i + 1) (by omega) (by omega)) rfl M_X2_40 rfl (len_of rfl) (by decide) (by decide) ?_
              rintro r hp3 ⟨rfl, rfl⟩
              refine g_run hC 2 rfl ?_
              refine g_lvs tail ⟨rfl, sI ?_, rfl, trivial⟩
              simp only [simN]
              rw [if_pos ⟨hb, h3⟩]
              exact nI_or _ _
        · rw [decide_eq_false hb]
          refine g_ifeq (tgt := 43) hC rfl (by decide) (fun _ => ?_) (fun h1 => ?_)
          · refine g_lvs tail ⟨rfl, sI ?_, rfl, trivial⟩
            simp only [simN]
            rw [if_neg (fun z => hb z.1)]
          · exact absurd rfl h1
  · refine g_run hC 2 rfl ?_
    refine g_get hC rfl F_X2_37 h0 h.1 rfl ?_
    refine g_icgt (tgt := 49) hC rfl (by decide) (fun _ => ?_) (fun h1 => absurd (nI_lt (Nat.lt_succ_self n) (by omega)) h1)
    refine g_run hC 1 rfl ?_
    exact g_iret hC rfl rfl ⟨rfl, rfl⟩ (Nat.le_refl _) (Nat.le_refl _)
end
end
section
section
variable {p : Program} {l : Launch} {e : Env} {R : Room} {s : State} {m : MethodId} {args : Array Value} {below : List Frame} {meth : Method} {c : Code} {D : va_G} {dA ad sa : Nat → Nat} {L : List Nat} {A : Nat → Prop} {nL cells slots : Nat} {Q : State → Prop} {hp : Nat → KE}
theorem g_cutA {ι : Type} (P : ι → Prop) (hpf : ι → Nat → KE) (pc1 : Nat) (lvf : ι → List (Nat × Value)) (stf : ι → List Value) {pc : Nat} {lv : List (Nat × Value)} {st : List Value} (t : ∀ i, P i → G p l e R s m args below meth c D dA ad L A nL cells slots Q (hpf i) pc1 (lvf i) (stf i)) (k : (∀ i, P i → G p l e R s m args below meth c D dA ad L A nL cells slots Q (hpf i) pc1 (lvf i) (stf i)) → G p l e R s m args below meth c D dA ad L A nL cells slots Q hp pc lv st) : G p l e R s m args below meth c D dA ad L A nL cells slots Q hp pc lv st := k t
end
section
variable {l : Launch} {D : va_G} {dA ad sa : Nat → Nat} {L : List Nat} {hp : Nat → KE} {n inp an lc : Nat} {cl ex : Nat → Int64} {pr : Nat → Nat → Int64} {gt : Nat → GT}
theorem c_X2_refuseTenth (hW : KF ad L) (hfl : l.stackTraces = false) (h : XR hp n inp an lc cl ex pr gt) (hn : n ≤ 9) : KX l yX2_refuseTenthWire cX2_refuseTenthWire 1 none (rmK 6 1 6) D dA ad sa L [.ref 0] hp (fun r hp' => n < 9 ∧ r = none ∧ hp' = hp) (fun E hp' => n = 9 ∧ E = ISE ∧ hp' = hp) := by
  refine KX.of rfl ok_X2_refuseTenthWire (len_of rfl) hW.1.1 hW.1.2 ?_
  intro p e s m args below meth c A hC hN hE
  refine g_run hC 1 rfl ?_
  refine g_get hC rfl F_X2_37 (hW.2 0 (by decide)) h.1 rfl ?_
  refine g_run hC 1 rfl ?_
  refine g_iclt (tgt := 19) hC rfl (by decide) (fun h1 => ?_) (fun h1 => ?_)
  · exact gx_ret hC rfl rfl ⟨(nI_ltI (a := n) (b := 9) (by omega) (by decide)).mp h1, rfl, rfl⟩ (by decide) (by decide)
  · have h2 : ¬ n < 9 := fun z => h1 ((nI_ltI (a := n) (b := 9) (by omega) (by decide)).mpr z)
    exact g_throw hC hN hE hfl T_71_154_75 rfl rfl rfl rfl rfl (by decide) (by decide) (by decide) ⟨by omega, rfl, rfl⟩
theorem c_X2_refuseOther (hW : KF ad L) (hfl : l.stackTraces = false) (h : XR hp n inp an lc cl ex pr gt) (x : Int32) : KX l yX2_refuseOtherThanInputs cX2_refuseOtherThanInputs 2 none (rmK 6 1 6) D dA ad sa L [.ref 0, .int x] hp (fun r hp' => x &&& (nI inp ^^^ cI (-1)) = 0 ∧ r = none ∧ hp' = hp) (fun E hp' => ¬ x &&& (nI inp ^^^ cI (-1)) = 0 ∧ E = IAE ∧ hp' = hp) := by
  refine KX.of rfl ok_X2_refuseOtherThanInputs (len_of rfl) hW.1.1 hW.1.2 ?_
  intro p e s m args below meth c A hC hN hE
  refine g_run hC 2 rfl ?_
  refine g_get hC rfl F_X2_33 (hW.2 0 (by decide)) h.1 rfl ?_
  refine g_run hC 3 rfl ?_
  refine g_ifeq (tgt := 21) hC rfl (by decide) (fun h1 => ?_) (fun h1 => ?_)
  · exact gx_ret hC rfl rfl ⟨h1, rfl, rfl⟩ (by decide) (by decide)
  · exact g_throw hC hN hE hfl T_52_156_56 rfl rfl rfl rfl rfl (by decide) (by decide) (by decide) ⟨h1, rfl, rfl⟩
theorem c_X2_refuseWithout (hW : KF ad L) (hfl : l.stackTraces = false) (h : XR hp n inp an lc cl ex pr gt) (hlc : lc < 2 ^ 31) : KX l yX2_refuseWithoutProof cX2_refuseWithoutProof 1 none (rmK 6 1 6) D dA ad sa L [.ref 0] hp (fun r hp' => ¬ lc = 0 ∧ r = none ∧ hp' = hp) (fun E hp' => lc = 0 ∧ E = ISE ∧ hp' = hp) := by
  refine KX.of rfl ok_X2_refuseWithoutProof (len_of rfl) hW.1.1 hW.1.2 ?_
  intro p e s m args below meth c A hC hN hE
  refine g_run hC 1 rfl ?_
  refine g_get hC rfl F_X2_113 (hW.2 0 (by decide)) h.1 rfl ?_
  refine g_ifne (tgt := 17) hC rfl (by decide) (fun h1 => ?_) (fun h1 => ?_)
  · exact gx_ret hC rfl rfl ⟨fun z => h1 ((nI_z hlc).mpr z), rfl, rfl⟩ (by decide) (by decide)
  · exact g_throw hC hN hE hfl T_71_158_75 rfl rfl rfl rfl rfl (by decide) (by decide) (by decide) ⟨(nI_z hlc).mp h1, rfl, rfl⟩
theorem bI_z (b : Bool) : bI b = 0 ↔ b = false := by cases b <;> decide
theorem c_X2_refuseSet (hW : KF ad L) (hfl : l.stackTraces = false) (h : XR hp n inp an lc cl ex pr gt) (hn : n ≤ 9) (x : Int32) : KX l yX2_refuseSetOutside cX2_refuseSetOutside 2 none (rmK 6 1 6) D dA ad sa L [.ref 0, .int x] hp (fun r hp' => setB n x = true ∧ r = none ∧ hp' = hp) (fun E hp' => setB n x = false ∧ E = IOB ∧ hp' = hp) := by
  refine KX.of rfl ok_X2_refuseSetOutside (len_of rfl) hW.1.1 hW.1.2 ?_
  intro p e s m args below meth c A hC hN hE
  refine g_run hC 2 rfl ?_
  refine g_callV hC hN [.int x] (c_X2_isSet hW h hn x) rfl M_X2_63 (hW.2 0 (by decide)) h.1 rfl rfl (len_of rfl) (by decide) (by decide) ?_
  rintro r hp1 ⟨rfl, rfl⟩
  refine g_ifne (tgt := 18) hC rfl (by decide) (fun h1 => ?_) (fun h1 => ?_)
  · refine gx_ret hC rfl rfl ⟨?_, rfl, rfl⟩ (by decide) (by decide)
    cases hb : setB n x with
    | true => rfl
    | false => exact absurd ((bI_z _).mpr hb) h1
  · exact g_throw hC hN hE hfl T_120_66_124 rfl rfl rfl rfl rfl (by decide) (by decide) (by decide) ⟨(bI_z _).mp h1, rfl, rfl⟩
/-- a line's number -/
def lineB (lc : Nat) (x : Int32) : Bool := decide (0 ≤ x) && decide (x < nI lc)
theorem lineB_iff {lc : Nat} {x : Int32} (h : lc ≤ 10) : lineB lc x = true ↔ ∃ k, k < lc ∧ x = nI k := by
  unfold lineB
  simp only [Bool.and_eq_true, decide_eq_true_eq]
  constructor
  · rintro ⟨h1, h3⟩
    rcases pk_ix x (n := lc) (by omega) with h4 | h4 | ⟨j, hj, e⟩
    · exact absurd h1 (Int32.not_le.mpr h4)
    · exact absurd h3 (Int32.not_lt.mpr h4)
    · exact ⟨j, hj, e⟩
  · rintro ⟨k, hk, rfl⟩
    exact ⟨nI_pos' (by omega), nI_lt hk (by omega)⟩
theorem c_X2_lineAt (hW : KF ad L) (hfl : l.stackTraces = false) (h : XR hp n inp an lc cl ex pr gt) (hlc : lc ≤ 10) (x : Int32) : KX l yX2_lineAt cX2_lineAt 2 (some (.object "GatePolynomials$Polynomial")) (rmK 7 2 12) D dA ad sa L [.ref 0, .int x] hp (fun r hp' => ∃ k, k < lc ∧ x = nI k ∧ r = some (.ref (34 + 2 * k)) ∧ hp' = hp) (fun E hp' => ((lc = 0 ∧ E = ISE) ∨ (¬ lc = 0 ∧ lineB lc x = false ∧ E = IOB)) ∧ hp' = hp) := by
  refine KX.of rfl ok_X2_lineAt (len_of rfl) hW.1.1 hW.1.2 ?_
  intro p e s m args below meth c A hC hN hE
  have h0 := hW.2 0 (by decide)
  refine g_run hC 1 rfl ?_
  refine g_callVX hC hN hE (by decide) (fun E hp' q => ⟨Or.inl ⟨q.1, q.2.1⟩, q.2.2⟩) [] (c_X2_refuseWithout hW hfl h (by omega)) rfl M_X2_136 h0 h.1 rfl rfl (len_of rfl) (by decide) (by decide) ?_
  rintro r hp1 ⟨hl0, rfl, rfl⟩
  refine g_run hC 1 rfl ?_
  refine g_iflt (tgt := 16) hC rfl (by decide) (fun h1 => ?_) (fun h1 => ?_)
  · refine g_throw hC hN hE hfl T_120_160_124 rfl rfl rfl rfl rfl (by decide) (by decide) (by decide) ⟨Or.inr ⟨hl0, ?_, rfl⟩, rfl⟩
    unfold lineB
    rw [decide_eq_false (Int32.not_le.mpr h1)]; rfl
  · refine g_run hC 2 rfl ?_
    refine g_get hC rfl F_X2_113 h0 h.1 rfl ?_
    refine g_iclt (tgt := 26) hC rfl (by decide) (fun h2 => ?_) (fun h2 => ?_)
    · obtain ⟨k, hk, rfl⟩ := (lineB_iff hlc).mp (show lineB lc x = true by unfold lineB; rw [decide_eq_true (Int32.not_lt.mp h1), decide_eq_true h2]; rfl)
      refine g_run hC 1 rfl ?_
      refine g_get hC rfl F_X2_22 h0 h.1 rfl ?_
      refine g_run hC 1 rfl ?_
      refine g_ald (C := RX1) (t := 3) hC k rfl (hW.2 4 (by decide)) h.2.2.1 rfl rfl (by omega) (by decide) rfl ?_
      exact gx_aret hC rfl rfl ⟨k, hk, rfl, rfl, rfl⟩ (by decide) (by decide)
    · refine g_throw hC hN hE hfl T_120_160_124 rfl rfl rfl rfl rfl (by decide) (by decide) (by decide) ⟨Or.inr ⟨hl0, ?_, rfl⟩, rfl⟩
      unfold lineB
      rw [decide_eq_false (p := x < nI lc) h2, Bool.and_false]
/-! the face -/
theorem c_X2_input (hW : KF ad L) (hfl : l.stackTraces = false) (h : XR hp n inp an lc cl ex pr gt) (hg : XG n inp gt) : KX l yX2_input cX2_input 1 (some .int) (rmK 7 1 6) D dA ad sa L [.ref 0] hp (fun r hp' => n < 9 ∧ r = some (.int (nI (n + 1))) ∧ XR hp' (n + 1) (inp ||| 2 ^ n) an 0 cl ex pr gt ∧ FX hp hp') (fun E hp' => n = 9 ∧ E = ISE ∧ hp' = hp) := by
  refine KX.of rfl ok_X2_input (len_of rfl) hW.1.1 hW.1.2 ?_
  intro p e s m args below meth c A hC hN hE
  have h0 := hW.2 0 (by decide)
  refine g_run hC 1 rfl ?_
  refine g_callVX hC hN hE (by decide) (fun E hp' q => q) [] (c_X2_refuseTenth hW hfl h hg.1) rfl M_X2_30 h0 h.1 rfl rfl (len_of rfl) (by decide) (by decide) ?_
  rintro r hp1 ⟨hn9, rfl, rfl⟩
  refine g_run hC 2 rfl ?_
  refine g_get hC rfl F_X2_33 h0 h.1 rfl ?_
  refine g_run hC 1 rfl ?_
  refine g_get hC rfl F_X2_37 h0 h.1 rfl ?_
  refine g_run hC 2 rfl ?_
  refine g_top (nI (n + 1)) (nI_s n) ?_
  refine g_callS hC hN [.int (nI (n + 1))] (c_X2_bitOf hW hp1 (n + 1) (by omega) (by omega)) rfl M_X2_40 rfl (len_of rfl) (by decide) (by decide) ?_
  rintro r hp2 ⟨rfl, rfl⟩
  refine g_run hC 1 rfl ?_
  refine g_top (nI (inp ||| 2 ^ n)) (nI_or _ _) ?_
  refine g_putI hC rfl F_X2_33 h0 h.1 (len_of rfl) rfl rfl ?_
  have h1 : XR (va_up hp2 0 (XObj n (inp ||| 2 ^ n) an lc)) n (inp ||| 2 ^ n) an lc cl ex pr gt := h.obj
  refine g_run hC 1 rfl ?_
  refine g_callV hC hN [] (c_X2_countNewWire hW h1) rfl M_X2_44 h0 h1.1 rfl rfl (len_of rfl) (by decide) (by decide) ?_
  rintro r hp3 ⟨rfl, h2, h3⟩
  exact gx_iret hC rfl rfl ⟨hn9, rfl, h2, (FX.up (by decide)).tr h3⟩ (by decide) (by decide)
theorem c_X2_wires (hW : KF ad L) (h : XR hp n inp an lc cl ex pr gt) : KM l yX2_wires cX2_wires 1 (some .int) (rmK 0 0 0) D dA ad sa L [.ref 0] hp (fun r hp' => r = some (.int (nI n)) ∧ hp' = hp) := by
  refine KM.of rfl ok_X2_wires (len_of rfl) hW.1.1 hW.1.2 ?_
  intro p e s m args below meth c A hC hN
  refine g_run hC 1 rfl ?_
  refine g_get hC rfl F_X2_37 (hW.2 0 (by decide)) h.1 rfl ?_
  exact g_iret hC rfl rfl ⟨rfl, rfl⟩ (Nat.le_refl _) (Nat.le_refl _)
theorem c_X2_lines (hW : KF ad L) (h : XR hp n inp an lc cl ex pr gt) : KM l yX2_lines cX2_lines 1 (some .int) (rmK 0 0 0) D dA ad sa L [.ref 0] hp (fun r hp' => r = some (.int (nI lc)) ∧ hp' = hp) := by
  refine KM.of rfl ok_X2_lines (len_of rfl) hW.1.1 hW.1.2 ?_
  intro p e s m args below meth c A hC hN
  refine g_run hC 1 rfl ?_
  refine g_get hC rfl F_X2_113 (hW.2 0 (by decide)) h.1 rfl ?_
  exact g_iret hC rfl rfl ⟨rfl, rfl⟩ (Nat.le_refl _) (Nat.le_refl _)
/-- a gate may be made of this -/
def gateB (n : Nat) (kd a b c : Int32) : Bool := decide (0 ≤ kd) && decide (kd ≤ nI 3) && litB n a && litB n b && (decide (kd < nI 2) || litB n c)
theorem kd_of {kd : Int32} (h : 0 ≤ kd) (h2 : kd ≤ nI 3) : ∃ k, k < 4 ∧ kd = nI k := by
  rcases pk_ix kd (n := 4) (by decide) with h4 | h4 | ⟨j, hj, e⟩
  · exact absurd h (Int32.not_le.mpr h4)
  · have h5 : nI 4 ≤ nI 3 := Int32.le_trans h4 h2
    exact absurd h5 (by decide)
  · exact ⟨j, hj, e⟩
theorem c_X2_gate (hW : KF ad L) (hfl : l.stackTraces = false) (h : XR hp n inp an lc cl ex pr gt) (hg : XG n inp gt) (x a b d : Int32) : KX l yX2_gate cX2_gate 7 (some .int) (rmK 7 1 6) D dA ad sa L [.ref 0, .int x, .int a, .int b, .int d] hp
    (fun r hp' => gateB n x a b d = true ∧ n < 9 ∧ r = some (.int (nI (n + 1))) ∧ ∃ k a1 b1 c1, k < 4 ∧ a1 < 2 * n + 2 ∧ b1 < 2 * n + 2 ∧ c1 < 2 * n + 2 ∧ x = nI k ∧ a = nI a1 ∧ b = nI b1 ∧ (2 ≤ k → d = nI c1) ∧ XR hp' (n + 1) inp an 0 cl ex pr (va_up gt n (k, a1, b1, c1, gV a1 b1 c1, gT k a1 b1 c1)) ∧ FX hp hp')
    (fun E hp' => ((gateB n x a b d = false ∧ E = IAE) ∨ (gateB n x a b d = true ∧ n = 9 ∧ E = ISE)) ∧ hp' = hp) := by
  refine KX.of rfl ok_X2_gate (len_of rfl) hW.1.1 hW.1.2 ?_
  intro p e s m args below meth c A hC hN hE
  have h0 := hW.2 0 (by decide)
  have hn := hg.1
  refine g_run hC 1 rfl ?_
  -- the two bools
  refine g_cut hp 14 [(0, .ref 0), (1, .int x), (2, .int a), (3, .int b), (4, .int d)] [.int (bI (decide (0 ≤ x) && decide (x ≤ nI 3)))] ?_ (fun t1 => ?_)
  · refine g_run hC 3 rfl ?_
    refine g_cut hp 31 [(0, .ref 0), (1, .int x), (2, .int a), (3, .int b), (4, .int d), (5, .int (bI (decide (0 ≤ x) && decide (x ≤ nI 3))))] [.int (bI (decide (x = nI 2) || decide (x = nI 3)))] ?_ (fun t2 => ?_)
    · refine g_run hC 2 rfl ?_
      cases hK : (decide (0 ≤ x) && decide (x ≤ nI 3)) with
      | false =>
        refine g_ifeq (tgt := 68) hC rfl (by decide) (fun _ => ?_) (fun h1 => absurd rfl h1)
        exact g_throw hC hN hE hfl T_52_54_56 rfl rfl rfl rfl rfl (by decide) (by decide) (by decide) ⟨Or.inl ⟨by unfold gateB; rw [hK]; rfl, rfl⟩, rfl⟩
      | true =>
        have hKK := hK
        simp only [Bool.and_eq_true, decide_eq_true_eq] at hKK
        obtain ⟨k, hk, rfl⟩ := kd_of hKK.1 hKK.2
        have hT : (decide (nI k = nI 2) || decide (nI k = nI 3)) = decide (2 ≤ k) := by
          rcases (show k = 0 ∨ k = 1 ∨ k = 2 ∨ k = 3 by omega) with rfl | rfl | rfl | rfl <;> decide
        have hT2 : decide (nI k < nI 2) = !decide (2 ≤ k) := by
          rcases (show k = 0 ∨ k = 1 ∨ k = 2 ∨ k = 3 by omega) with rfl | rfl | rfl | rfl <;> decide
        rw [hT]
        refine g_ifeq (tgt := 68) hC rfl (by decide) (fun h1 => absurd h1 (by decide)) (fun _ => ?_)
        refine g_run hC 2 rfl ?_
        refine g_callV hC hN [.int a] (c_X2_isLiteral hW h a) rfl M_X2_48 h0 h.1 rfl rfl (len_of rfl) (by decide) (by decide) ?_
        rintro r hp1 ⟨rfl, rfl⟩
        cases hla : litB n a with
        | false =>
          refine g_ifeq (tgt := 68) hC rfl (by decide) (fun _ => ?_) (fun h1 => absurd rfl h1)
          exact g_throw hC hN hE hfl T_52_54_56 rfl rfl rfl rfl rfl (by decide) (by decide) (by decide) ⟨Or.inl ⟨by unfold gateB; rw [hK, hla]; rfl, rfl⟩, rfl⟩
        | true =>
          refine g_ifeq (tgt := 68) hC rfl (by decide) (fun h1 => absurd h1 (by decide)) (fun _ => ?_)
          refine g_run hC 2 rfl ?_
          refine g_callV hC hN [.int b] (c_X2_isLiteral hW h b) rfl M_X2_48 h0 h.1 rfl rfl (len_of rfl) (by decide) (by decide) ?_
          rintro r hp2 ⟨rfl, rfl⟩
          cases hlb : litB n b with
          | false =>
            refine g_ifeq (tgt := 68) hC rfl (by decide) (fun _ => ?_) (fun h1 => absurd rfl h1)
            exact g_throw hC hN hE hfl T_52_54_56 rfl rfl rfl rfl rfl (by decide) (by decide) (by decide) ⟨Or.inl ⟨by unfold gateB; rw [hK, hla, hlb]; rfl, rfl⟩, rfl⟩
          | true =>
            obtain ⟨a1, ha1, rfl⟩ := (litB_iff hn).mp hla
            obtain ⟨b1, hb1, rfl⟩ := (litB_iff hn).mp hlb
            refine g_ifeq (tgt := 68) hC rfl (by decide) (fun h1 => absurd h1 (by decide)) (fun _ => ?_)
            refine g_run hC 1 rfl ?_
            -- behind the tests
            refine g_cutA (ι := Nat) (fun c1 => c1 < 2 * n + 2 ∧ (2 ≤ k → d = nI c1) ∧ (¬ 2 ≤ k → c1 = 0) ∧ gateB n (nI k) (nI a1) (nI b1) d = true) (fun _ => hp2) 78 (fun _ => [(0, .ref 0), (1, .int (nI k)), (2, .int (nI a1)), (3, .int (nI b1)), (4, .int d), (6, .int (bI (decide (2 ≤ k))))]) (fun _ => []) ?_ (fun t78 => ?_)
            · rintro c1 ⟨hc1, hd1, hd0, hgb⟩
              refine g_run hC 1 rfl ?_
              refine g_callVX hC hN hE (by decide) (fun E hp' q => ⟨Or.inr ⟨hgb, q.1, q.2.1⟩, q.2.2⟩) [] (c_X2_refuseTenth hW hfl h hn) rfl M_X2_30 h0 h.1 rfl rfl (len_of rfl) (by decide) (by decide) ?_
              rintro r hp3 ⟨hn9, rfl, rfl⟩
              refine g_run hC 1 rfl ?_
              refine g_get hC rfl F_X2_11 h0 h.1 rfl ?_
              refine g_run hC 1 rfl ?_
              refine g_get hC rfl F_X2_37 h0 h.1 rfl ?_
              refine g_ald (C := RX0) (t := 2) hC n rfl (hW.2 1 (by decide)) h.2.1 rfl rfl hn9 (by decide) rfl ?_
              refine g_run hC 4 rfl ?_
              refine g_cut hp3 105 [(0, .ref 0)] [.int (nI c1), .int (nI b1), .int (nI a1), .int (nI k), .ref (7 + 3 * n)] ?_ (fun t105 => ?_)
              · have hga := h.2.2.2.2.2.2 n hn9
                refine g_callV hC hN [.int (nI k), .int (nI a1), .int (nI b1), .int (nI c1)] (c_X0_become hW hp3 (7 + 3 * n) _ _ _ _ _ _ k a1 b1 c1 (by omega) hga hk (by omega) (by omega) (by omega)) rfl M_X2_59 (hW.2 _ (by omega)) hga.1 rfl rfl (len_of rfl) (by decide) (by decide) ?_
                rintro r hp4 ⟨rfl, rfl⟩
                have h2 := h.setgt (kd := k) (a := a1) (b := b1) (c := c1) (ts := gV a1 b1 c1) (tn := gT k a1 b1 c1) hn9
                refine g_run hC 1 rfl ?_
                refine g_callV hC hN [] (c_X2_countNewWire hW h2) rfl M_X2_44 h0 h2.1 rfl rfl (len_of rfl) (by decide) (by decide) ?_
                rintro r hp5 ⟨rfl, h3, h4⟩
                refine gx_iret hC rfl rfl ⟨hgb, hn9, rfl, k, a1, b1, c1, hk, ha1, hb1, hc1, rfl, rfl, rfl, hd1, h3, FX.tr (fun q hq => setGate_ne (by omega) (by omega) (by omega)) h4⟩ (by decide) (by decide)
              · by_cases hk2 : 2 ≤ k
                · rw [decide_eq_true hk2]
                  refine g_ifeq (tgt := 104) hC rfl (by decide) (fun h1 => absurd h1 (by decide)) (fun _ => ?_)
                  refine g_run hC 2 rfl ?_
                  refine g_cv rfl ?_ (g_lvs t105 ⟨rfl, trivial⟩)
                  rw [hd1 hk2]; rfl
                · rw [decide_eq_false hk2]
                  refine g_ifeq (tgt := 104) hC rfl (by decide) (fun _ => ?_) (fun h1 => absurd rfl h1)
                  refine g_run hC 1 rfl ?_
                  refine g_cv rfl ?_ (g_lvs t105 ⟨rfl, trivial⟩)
                  rw [hd0 hk2]; rfl
            by_cases hk2 : 2 ≤ k
            · rw [decide_eq_true hk2] at t78 hT2 ⊢
              refine g_ifeq (tgt := 78) hC rfl (by decide) (fun h1 => absurd h1 (by decide)) (fun _ => ?_)
              refine g_run hC 2 rfl ?_
              refine g_callV hC hN [.int d] (c_X2_isLiteral hW h d) rfl M_X2_48 h0 h.1 rfl rfl (len_of rfl) (by decide) (by decide) ?_
              rintro r hp3 ⟨rfl, rfl⟩
              cases hld : litB n d with
              | false =>
                refine g_ifne (tgt := 78) hC rfl (by decide) (fun h1 => absurd rfl h1) (fun _ => ?_)
                exact g_throw hC hN hE hfl T_52_54_56 rfl rfl rfl rfl rfl (by decide) (by decide) (by decide) ⟨Or.inl ⟨by unfold gateB; rw [hK, hla, hlb, hT2, hld]; rfl, rfl⟩, rfl⟩
              | true =>
                obtain ⟨c1, hc1, hd1⟩ := (litB_iff hn).mp hld
                refine g_ifne (tgt := 78) hC rfl (by decide) (fun _ => ?_) (fun h1 => absurd h1 (by decide))
                exact g_lvs (t78 c1 ⟨hc1, fun _ => hd1, fun z => absurd hk2 z, by unfold gateB; rw [hK, hla, hlb, hT2, hld]; rfl⟩) ⟨rfl, rfl, rfl, rfl, rfl, rfl, trivial⟩
            · rw [decide_eq_false hk2] at t78 hT2 ⊢
              refine g_ifeq (tgt := 78) hC rfl (by decide) (fun _ => ?_) (fun h1 => absurd rfl h1)
              exact g_lvs (t78 0 ⟨by omega, fun z => absurd z hk2, fun _ => rfl, by unfold gateB; rw [hK, hla, hlb, hT2]; rfl⟩) ⟨rfl, rfl, rfl, rfl, rfl, rfl, trivial⟩
    · refine g_iceq (tgt := 26) hC rfl (by decide) (fun h1 => ?_) (fun h1 => ?_)
      · refine g_run hC 2 rfl ?_
        refine g_cv rfl ?_ (g_lvs t2 ⟨rfl, rfl, rfl, rfl, rfl, rfl, trivial⟩)
        rw [decide_eq_true (show x = nI 2 from h1)]; rfl
      · refine g_run hC 2 rfl ?_
        refine g_icne (tgt := 30) hC rfl (by decide) (fun h2 => ?_) (fun h2 => ?_)
        · refine g_run hC 1 rfl ?_
          refine g_cv rfl ?_ (g_lvs t2 ⟨rfl, rfl, rfl, rfl, rfl, rfl, trivial⟩)
          rw [decide_eq_false (p := x = nI 2) h1, decide_eq_false (p := x = nI 3) h2]; rfl
        · refine g_run hC 2 rfl ?_
          refine g_cv rfl ?_ (g_lvs t2 ⟨rfl, rfl, rfl, rfl, rfl, rfl, trivial⟩)
          rw [decide_eq_true (p := x = nI 3) h2, Bool.or_true]; rfl
  · refine g_iflt (tgt := 13) hC rfl (by decide) (fun h1 => ?_) (fun h1 => ?_)
    · refine g_run hC 1 rfl ?_
      refine g_cv rfl ?_ (g_lvs t1 ⟨rfl, rfl, rfl, rfl, rfl, trivial⟩)
      rw [decide_eq_false (p := 0 ≤ x) (Int32.not_le.mpr h1)]; rfl
    · refine g_run hC 2 rfl ?_
      refine g_icgt (tgt := 13) hC rfl (by decide) (fun h2 => ?_) (fun h2 => ?_)
      · refine g_run hC 1 rfl ?_
        refine g_cv rfl ?_ (g_lvs t1 ⟨rfl, rfl, rfl, rfl, rfl, trivial⟩)
        rw [decide_eq_false (p := x ≤ nI 3) (Int32.not_le.mpr h2), Bool.and_false]; rfl
      · refine g_run hC 2 rfl ?_
        refine g_cv rfl ?_ (g_lvs t1 ⟨rfl, rfl, rfl, rfl, rfl, trivial⟩)
        rw [decide_eq_true (p := 0 ≤ x) (Int32.not_lt.mp h1), decide_eq_true (p := x ≤ nI 3) (Int32.not_lt.mp h2)]; rfl
end
end
section
def prvN (inp : Nat) (gt : Nat → GT) : Nat → Nat → (Nat → Nat → Int64) → Bool × Nat × (Nat → Nat → Int64)
  | 0, last, pr => (true, last, pr)
  | w + 1, last, pr => if inp &&& 2 ^ w = 0 then
      (if cnt (elimC (pr last) (2 ^ w) (gt w).2.2.2.2.1 (gt w).2.2.2.2.2) ≤ 40 then prvN inp gt w (last + 1) (va_up pr (last + 1) (elimC (pr last) (2 ^ w) (gt w).2.2.2.2.1 (gt w).2.2.2.2.2))
       else (false, last + 1, va_up pr (last + 1) (elimC (pr last) (2 ^ w) (gt w).2.2.2.2.1 (gt w).2.2.2.2.2)))
    else prvN inp gt w last pr
def chkN (inp : Nat) (gt : Nat → GT) (pr : Nat → Nat → Int64) : Nat → Nat → Option Nat
  | 0, _ => none
  | w + 1, line => if inp &&& 2 ^ w = 0 then (if eqR (pr (line + 1)) (elimC (pr line) (2 ^ w) (gt w).2.2.2.2.1 (gt w).2.2.2.2.2) = true then chkN inp gt pr w (line + 1) else some (line + 1)) else chkN inp gt pr w line
theorem gV_lt {a b c t : Nat} (ha : a < 20) (hb : b < 20) (hc : c < 20) : gV a b c t < 512 := by
  have h : ∀ x y, y < 512 → (x % 2) * y < 512 := fun x y hy => by
    rcases (show x % 2 = 0 ∨ x % 2 = 1 by omega) with e | e <;> rw [e] <;> omega
  unfold gV
  exact or_lt9 (or_lt9 (h _ _ (wbit_lt ha)) (h _ _ (wbit_lt hb))) (h _ _ (wbit_lt hc))
theorem gGood.lt {i : Nat} {t : GT} (h : gGood i t) (hi : i < 9) : ∀ j, j < 8 → t.2.2.2.2.1 j < 512 := fun j _ => by
  obtain ⟨-, h1, h2, h3, h4, -⟩ := h
  rw [h4]
  exact gV_lt (by omega) (by omega) (by omega)
section
variable {l : Launch} {D : va_G} {dA ad sa : Nat → Nat} {L : List Nat} {hp : Nat → KE} {n inp an lc : Nat} {cl ex : Nat → Int64} {pr : Nat → Nat → Int64} {gt : Nat → GT}
theorem c_X2_add (hW : KF ad L) (hfl : l.stackTraces = false) (h : XR hp n inp an lc cl ex pr gt) (hn : n ≤ 9) (han : an ≤ 40) (x y : Int32) : KX l yX2_add cX2_add 3 (some .int) (rmK 7 1 6) D dA ad sa L [.ref 0, .int x, .int y] hp
    (fun r hp' => ∃ k, k < 2 ^ n ∧ x = nI k ∧ an < 40 ∧ r = some (.int (nI (an + 1))) ∧ XR hp' n inp (an + 1) 0 (inc cl k y.toInt64) ex pr gt ∧ FX hp hp')
    (fun E hp' => ((setB n x = false ∧ E = IAE) ∨ (setB n x = true ∧ an = 40 ∧ E = ISE)) ∧ hp' = hp) := by
  refine KX.of rfl ok_X2_add (len_of rfl) hW.1.1 hW.1.2 ?_
  intro p e s m args below meth c A hC hN hE
  have h0 := hW.2 0 (by decide)
  have h2 := p2_lt hn
  refine g_run hC 2 rfl ?_
  refine g_callV hC hN [.int x] (c_X2_isSet hW h hn x) rfl M_X2_63 h0 h.1 rfl rfl (len_of rfl) (by decide) (by decide) ?_
  rintro r hp1 ⟨rfl, rfl⟩
  cases hb : setB n x with
  | false =>
    refine g_ifne (tgt := 18) hC rfl (by decide) (fun h1 => absurd rfl h1) (fun _ => ?_)
    exact g_throw hC hN hE hfl T_52_66_56 rfl rfl rfl rfl rfl (by decide) (by decide) (by decide) ⟨Or.inl ⟨rfl, rfl⟩, rfl⟩
  | true =>
    obtain ⟨k, hk, rfl⟩ := (setB_iff hn).mp hb
    refine g_ifne (tgt := 18) hC rfl (by decide) (fun _ => ?_) (fun h1 => absurd h1 (by decide))
    refine g_run hC 1 rfl ?_
    refine g_get hC rfl F_X2_68 h0 h.1 rfl ?_
    refine g_run hC 1 rfl ?_
    refine g_iclt (tgt := 37) hC rfl (by decide) (fun h1 => ?_) (fun h1 => ?_)
    · have h3 : an < 40 := (nI_ltI (a := an) (b := 40) (by omega) (by decide)).mp h1
      refine g_run hC 1 rfl ?_
      refine g_get hC rfl F_X2_18 h0 h.1 rfl ?_
      refine g_run hC 3 rfl ?_
      refine g_callV hC hN [.int (nI k), .long y.toInt64] (c_X1_increase hW hp1 2 k cl _ (by decide) h.2.2.2.1 (by omega)) rfl M_X2_76 (hW.2 2 (by decide)) h.2.2.2.1.1 rfl rfl (len_of rfl) (by decide) (by decide) ?_
      rintro r hp2 ⟨rfl, rfl⟩
      have h4 := h.setcl (r := va_up cl k (cl k + y.toInt64))
      refine g_run hC 3 rfl ?_
      refine g_get hC rfl F_X2_68 h0 h4.1 rfl ?_
      refine g_run hC 2 rfl ?_
      refine g_top (nI (an + 1)) (nI_s an) ?_
      refine g_putI hC rfl F_X2_68 h0 h4.1 (len_of rfl) rfl rfl ?_
      have h5 := h4.obj (n2 := n) (inp2 := inp) (an2 := an + 1) (lc2 := lc)
      refine g_run hC 1 rfl ?_
      refine g_callV hC hN [] (c_X2_dropProof hW h5) rfl M_X2_80 h0 h5.1 rfl rfl (len_of rfl) (by decide) (by decide) ?_
      rintro r hp3 ⟨rfl, h6, h7⟩
      refine g_run hC 1 rfl ?_
      refine g_get hC rfl F_X2_68 h0 h6.1 rfl ?_
      exact gx_iret hC rfl rfl ⟨k, hk, rfl, h3, rfl, h6, ((FX.setP (by decide)).tr (FX.up (by decide))).tr h7⟩ (by decide) (by decide)
    · have h3 : ¬ an < 40 := fun z => h1 ((nI_ltI (a := an) (b := 40) (by omega) (by decide)).mpr z)
      exact g_throw hC hN hE hfl T_71_73_75 rfl rfl rfl rfl rfl (by decide) (by decide) (by decide) ⟨Or.inr ⟨rfl, by omega, rfl⟩, rfl⟩
/-- a set of inputs alone -/
theorem inpB_iff {inp : Nat} (hi : inp < 512) {x : Int32} : x &&& (nI inp ^^^ cI (-1)) = 0 ↔ ∃ o, o < 512 ∧ o &&& inp = o ∧ x = nI o := by
  constructor
  · intro h
    have e1 : x &&& nI inp = x := by
      rw [← Int32.toBitVec_inj] at h ⊢
      have h9 : x.toBitVec &&& ((nI inp).toBitVec ^^^ BitVec.allOnes 32) = 0#32 := h
      show x.toBitVec &&& (nI inp).toBitVec = x.toBitVec
      generalize x.toBitVec = a at h9 ⊢
      generalize (nI inp).toBitVec = b at h9 ⊢
      apply BitVec.eq_of_getLsbD_eq
      intro j hj
      have h1 := congrArg (fun z => z.getLsbD j) h9
      simp only [BitVec.getLsbD_and, BitVec.getLsbD_xor, BitVec.getLsbD_allOnes, decide_eq_true hj, BitVec.getLsbD_zero] at h1 ⊢
      revert h1
      cases a.getLsbD j <;> cases b.getLsbD j <;> decide
    obtain ⟨k, hk, rfl⟩ : ∃ k, k < 2 ^ 32 ∧ x = nI k := ⟨x.toBitVec.toNat, x.toBitVec.isLt, by
      apply Int32.toBitVec_inj.1
      show x.toBitVec = BitVec.ofNat 32 x.toBitVec.toNat
      rw [BitVec.ofNat_toNat]; simp⟩
    rw [nI_and] at e1
    have h3 : k &&& inp < 512 := Nat.lt_of_le_of_lt Nat.and_le_right hi
    refine ⟨k &&& inp, h3, ?_, e1.symm⟩
    rw [Nat.and_assoc, Nat.and_self]
  · rintro ⟨o, ho, h1, rfl⟩
    exact (andnot o inp ho).mpr h1
theorem c_X2_simulate (hW : KF ad L) (hfl : l.stackTraces = false) (h : XR hp n inp an lc cl ex pr gt) (hg : XG n inp gt) (x : Int32) : KX l yX2_simulate cX2_simulate 2 (some .int) (rmK 7 1 6) D dA ad sa L [.ref 0, .int x] hp
    (fun r hp' => ∃ o, o < 512 ∧ o &&& inp = o ∧ x = nI o ∧ r = some (.int (nI (simN inp gt o n))) ∧ hp' = hp)
    (fun E hp' => ¬ (∃ o, o < 512 ∧ o &&& inp = o ∧ x = nI o) ∧ E = IAE ∧ hp' = hp) := by
  refine KX.of rfl ok_X2_simulate (len_of rfl) hW.1.1 hW.1.2 ?_
  intro p e s m args below meth c A hC hN hE
  have h0 := hW.2 0 (by decide)
  have hi5 : inp < 512 := Nat.lt_of_lt_of_le hg.2.1 (p2_lt hg.1)
  refine g_run hC 2 rfl ?_
  refine g_callVX hC hN hE (by decide) (fun E hp' q => ⟨fun z => q.1 ((inpB_iff hi5).mpr z), q.2.1, q.2.2⟩) [.int x] (c_X2_refuseOther hW hfl h x) rfl M_X2_83 h0 h.1 rfl rfl (len_of rfl) (by decide) (by decide) ?_
  rintro r hp1 ⟨q, rfl, rfl⟩
  obtain ⟨o, ho, h1, rfl⟩ := (inpB_iff hi5).mp q
  refine g_run hC 2 rfl ?_
  refine g_callV hC hN [.int (nI o)] (c_X2_ones hW h hg o ho) rfl M_X2_87 h0 h.1 rfl rfl (len_of rfl) (by decide) (by decide) ?_
  rintro r hp2 ⟨rfl, rfl⟩
  exact gx_iret hC rfl rfl ⟨o, ho, h1, rfl, rfl, rfl⟩ (by decide) (by decide)
theorem c_X2_evaluate (hW : KF ad L) (hfl : l.stackTraces = false) (h : XR hp n inp an lc cl ex pr gt) (hg : XG n inp gt) (x : Int32) : KX l yX2_evaluate cX2_evaluate 2 (some .long) (rmK 7 1 6) D dA ad sa L [.ref 0, .int x] hp
    (fun r hp' => ∃ o, o < 512 ∧ o &&& inp = o ∧ x = nI o ∧ r = some (.long (vsN cl (simN inp gt o n) 512)) ∧ hp' = hp)
    (fun E hp' => ¬ (∃ o, o < 512 ∧ o &&& inp = o ∧ x = nI o) ∧ E = IAE ∧ hp' = hp) := by
  refine KX.of rfl ok_X2_evaluate (len_of rfl) hW.1.1 hW.1.2 ?_
  intro p e s m args below meth c A hC hN hE
  have h0 := hW.2 0 (by decide)
  have hi5 : inp < 512 := Nat.lt_of_lt_of_le hg.2.1 (p2_lt hg.1)
  refine g_run hC 2 rfl ?_
  refine g_callVX hC hN hE (by decide) (fun E hp' q => ⟨fun z => q.1 ((inpB_iff hi5).mpr z), q.2.1, q.2.2⟩) [.int x] (c_X2_refuseOther hW hfl h x) rfl M_X2_83 h0 h.1 rfl rfl (len_of rfl) (by decide) (by decide) ?_
  rintro r hp1 ⟨q, rfl, rfl⟩
  obtain ⟨o, ho, h1, rfl⟩ := (inpB_iff hi5).mp q
  refine g_run hC 1 rfl ?_
  refine g_get hC rfl F_X2_18 h0 h.1 rfl ?_
  refine g_run hC 2 rfl ?_
  refine g_callV hC hN [.int (nI o)] (c_X2_ones hW h hg o ho) rfl M_X2_87 h0 h.1 rfl rfl (len_of rfl) (by decide) (by decide) ?_
  rintro r hp2 ⟨rfl, rfl⟩
  refine g_callV hC hN [.int (nI (simN inp gt o n))] (c_X1_valueWhere hW hp2 2 _ cl (by decide) h.2.2.2.1) rfl M_X2_90 (hW.2 2 (by decide)) h.2.2.2.1.1 rfl rfl (len_of rfl) (by decide) (by decide) ?_
  rintro r hp3 ⟨rfl, rfl⟩
  exact gx_lret hC rfl rfl ⟨o, ho, h1, rfl, rfl, rfl⟩ (by decide) (by decide)
theorem c_X2_prove (hW : KF ad L) (hfl : l.stackTraces = false) (h : XR hp n inp an lc cl ex pr gt) (hg : XG n inp gt) : KX l yX2_prove cX2_prove 3 (some .int) (rmK 7 1 6) D dA ad sa L [.ref 0] hp
    (fun r hp' => ∃ last pr', prvN inp gt n 0 (va_up pr 0 cl) = (true, last, pr') ∧ last ≤ n ∧ r = some (.int (nI (cnt (pr' last)))) ∧ XR hp' n inp an (last + 1) cl ex pr' gt ∧ FX hp hp')
    (fun E hp' => ∃ last pr', prvN inp gt n 0 (va_up pr 0 cl) = (false, last, pr') ∧ E = AEX ∧ XR hp' n inp an lc cl ex pr' gt ∧ FX hp hp') := by
  refine KX.of rfl ok_X2_prove (len_of rfl) hW.1.1 hW.1.2 ?_
  intro p e s m args below meth c A hC hN hE
  obtain ⟨hn, hi, hgd⟩ := hg
  have h0 := hW.2 0 (by decide)
  have hi5 : inp < 512 := Nat.lt_of_lt_of_le hi (p2_lt hn)
  refine g_run hC 1 rfl ?_
  refine g_get hC rfl F_X2_22 h0 h.1 rfl ?_
  refine g_run hC 1 rfl ?_
  refine g_ald (C := RX1) (t := 3) hC 0 rfl (hW.2 4 (by decide)) h.2.2.1 rfl rfl (by decide) (by decide) rfl ?_
  refine g_run hC 1 rfl ?_
  refine g_get hC rfl F_X2_18 h0 h.1 rfl ?_
  have hp0 := h.2.2.2.2.2.1 0 (by decide)
  refine g_callV hC hN [.ref 2] (c_X1_becomeCopy hW hp 34 2 _ cl (by decide) hp0 (by decide) h.2.2.2.1 (by decide) (by decide) (by decide)) rfl M_X2_94 (hW.2 34 (by decide)) hp0.1 rfl rfl (len_of rfl) (by decide) (by decide) ?_
  rintro r hp1 ⟨rfl, rfl⟩
  have h1 := h.setpr (j := 0) (r := cl) (by decide)
  generalize hRES : prvN inp gt n 0 (va_up pr 0 cl) = RES
  refine g_run hC 3 rfl ?_
  refine g_get hC rfl F_X2_37 h0 h1.1 rfl ?_
  refine g_run hC 1 rfl ?_
  refine g_ind (σ := Nat × Nat × (Nat → Nat → Int64) × (Nat → KE)) (fun x => x.1) (fun x => x.2.1 + x.1 ≤ n ∧ XR x.2.2.2 n inp an lc cl ex x.2.2.1 gt ∧ FX hp x.2.2.2 ∧ prvN inp gt x.1 x.2.1 x.2.2.1 = RES) (fun x => x.2.2.2) (fun x => [(0, .ref 0), (1, .int (nI x.2.1)), (2, .int (nI x.1))]) (n, 0, va_up pr 0 cl, setP hp 34 cl) ⟨Nat.le_of_eq (Nat.zero_add n), h1, FX.setP (by decide), hRES⟩ rfl ⟨rfl, rfl, rfl, trivial⟩ ?_
  rintro ⟨w, last, pr1, hp2⟩ ⟨hwl, hx, hf, hres⟩ ih
  dsimp only at hwl hx hf hres ih ⊢
  refine g_run hC 2 rfl ?_
  refine g_iclt (tgt := 95) hC rfl (by decide) (fun h2 => ?_) (fun h2 => ?_)
  · have hw0 : w = 0 := by
      have := (nI_ltI (a := w) (b := 1) (by omega) (by decide)).mp h2
      omega
    subst hw0
    simp only [prvN] at hres
    refine g_run hC 4 rfl ?_
    refine g_top (nI (last + 1)) (nI_s last) ?_
    refine g_putI hC rfl F_X2_113 h0 hx.1 (len_of rfl) rfl rfl ?_
    have h3 := hx.obj (n2 := n) (inp2 := inp) (an2 := an) (lc2 := last + 1)
    refine g_run hC 1 rfl ?_
    refine g_get hC rfl F_X2_22 h0 h3.1 rfl ?_
    refine g_run hC 1 rfl ?_
    refine g_ald (C := RX1) (t := 3) hC last rfl (hW.2 4 (by decide)) h3.2.2.1 rfl rfl (by omega) (by decide) rfl ?_
    have hpl := h3.2.2.2.2.2.1 last (by omega)
    refine g_callV hC hN [] (c_X1_monomialCount hW _ (34 + 2 * last) _ (by omega) hpl) rfl M_X2_105 (hW.2 _ (by omega)) hpl.1 rfl rfl (len_of rfl) (by decide) (by decide) ?_
    rintro r hp3 ⟨rfl, rfl⟩
    exact gx_iret hC rfl rfl ⟨last, pr1, hres.symm, by omega, rfl, h3, hf.tr (FX.up (by decide))⟩ (by decide) (by decide)
  · have hw0 : ¬ w < 1 := fun z => h2 ((nI_ltI (a := w) (b := 1) (by omega) (by decide)).mpr z)
    obtain ⟨w1, rfl⟩ : ∃ k, w = k + 1 := ⟨w - 1, by omega⟩
    simp only [prvN] at hres
    refine g_run hC 2 rfl ?_
    refine g_callV hC hN [.int (nI (w1 + 1))] (c_X2_isGate hW hx w1 hi5 (by omega)) rfl M_X2_98 h0 hx.1 rfl rfl (len_of rfl) (by decide) (by decide) ?_
    rintro r hp3 ⟨rfl, rfl⟩
    by_cases hb : inp &&& 2 ^ w1 = 0
    · rw [decide_eq_true hb]
      rw [if_pos hb] at hres
      have hgg := hgd w1 (by omega) hb
      refine g_ifeq (tgt := 89) hC rfl (by decide) (fun h3 => absurd h3 (by decide)) (fun _ => ?_)
      refine g_run hC 2 rfl ?_
      refine g_get hC rfl F_X2_22 h0 hx.1 rfl ?_
      refine g_run hC 1 rfl ?_
      refine g_ald (C := RX1) (t := 3) hC (last + 1) rfl (hW.2 4 (by decide)) hx.2.2.1 rfl (nI_s last) (by omega) (by decide) rfl ?_
      refine g_run hC 1 rfl ?_
      refine g_get hC rfl F_X2_22 h0 hx.1 rfl ?_
      refine g_run hC 3 rfl ?_
      refine g_ald (C := RX1) (t := 3) hC last rfl (hW.2 4 (by decide)) hx.2.2.1 rfl ?_ (by omega) (by decide) rfl ?_
      · show nI last + cI 1 - nI 1 = nI last
        rw [nI_s]; exact pk_sub (a := last + 1) (b := 1) (by omega)
      refine g_run hC 1 rfl ?_
      refine g_callS hC hN [.int (nI (w1 + 1))] (c_X2_bitOf hW hp3 (w1 + 1) (by omega) (by omega)) rfl M_X2_40 rfl (len_of rfl) (by decide) (by decide) ?_
      rintro r hp4 ⟨rfl, rfl⟩
      refine g_run hC 1 rfl ?_
      refine g_get hC rfl F_X2_11 h0 hx.1 rfl ?_
      refine g_run hC 3 rfl ?_
      refine g_ald (C := RX0) (t := 2) hC w1 rfl (hW.2 1 (by decide)) hx.2.1 rfl (pk_sub (a := w1 + 1) (b := 1) (by omega)) (by omega) (by decide) rfl ?_
      have q1 := hx.2.2.2.2.2.1 (last + 1) (by omega)
      have q2 := hx.2.2.2.2.2.1 last (by omega)
      have q3 := hx.2.2.2.2.2.2 w1 (by omega)
      refine g_callV hC hN [.ref (34 + 2 * last), .int (nI (2 ^ (w1 + 1 - 1))), .ref (7 + 3 * w1)] (c_X1_becomeElimination hW hp4 (34 + 2 * (last + 1)) (34 + 2 * last) (7 + 3 * w1) (w1 + 1 - 1) _ _ _ _ _ _ _ _ (by omega) q1 (by omega) q2 (by omega) q3 (by omega) (by omega) (by omega) (by omega) (by omega) (by omega) (by omega) (by omega) (hgg.lt (by omega))) rfl M_X2_101 (hW.2 _ (by omega)) q1.1 rfl rfl (len_of rfl) (by decide) (by decide) ?_
      rintro r hp5 ⟨rfl, rfl⟩
      rw [Nat.add_sub_cancel]
      have h4 := hx.setpr (j := last + 1) (r := elimC (pr1 last) (2 ^ w1) (gt w1).2.2.2.2.1 (gt w1).2.2.2.2.2) (by omega)
      refine g_run hC 1 rfl ?_
      refine g_get hC rfl F_X2_22 h0 h4.1 rfl ?_
      refine g_run hC 1 rfl ?_
      refine g_ald (C := RX1) (t := 3) hC (last + 1) rfl (hW.2 4 (by decide)) h4.2.2.1 rfl (nI_s last) (by omega) (by decide) rfl ?_
      refine g_callV hC hN [] (c_X1_monomialCount hW _ (34 + 2 * (last + 1)) _ (by omega) (setP_at _ _ _)) rfl M_X2_105 (hW.2 _ (by omega)) (setP_at _ _ _).1 rfl rfl (len_of rfl) (by decide) (by decide) ?_
      rintro r hp6 ⟨rfl, rfl⟩
      refine g_run hC 1 rfl ?_
      have hcl := cnt_le (elimC (pr1 last) (2 ^ w1) (gt w1).2.2.2.2.1 (gt w1).2.2.2.2.2)
      refine g_icle (tgt := 89) hC rfl (by decide) (fun h3 => ?_) (fun h3 => ?_)
      · have h5 := (nI_leI (b := 40) (by omega) (by decide)).mp h3
        rw [if_pos h5] at hres
        refine g_run hC 2 rfl ?_
        exact g_lvs (ih (w1, last + 1, _, _) ⟨by dsimp only; omega, h4, hf.tr (FX.setP (by omega)), hres⟩ (by dsimp only; omega)) ⟨rfl, sI (nI_s last), sI (m1_pred (Nat.succ_pos w1)), trivial⟩
      · have h5 : ¬ cnt (elimC (pr1 last) (2 ^ w1) (gt w1).2.2.2.2.1 (gt w1).2.2.2.2.2) ≤ 40 := fun z => h3 ((nI_leI (b := 40) (by omega) (by decide)).mpr z)
        rw [if_neg h5] at hres
        exact g_throw hC hN hE hfl T_108_110_112 rfl rfl rfl rfl rfl (by decide) (by decide) (by decide) ⟨_, _, hres.symm, rfl, h4, hf.tr (FX.setP (by omega))⟩
    · rw [decide_eq_false hb]
      rw [if_neg hb] at hres
      refine g_ifeq (tgt := 89) hC rfl (by decide) (fun _ => ?_) (fun h3 => absurd rfl h3)
      refine g_run hC 2 rfl ?_
      exact g_lvs (ih (w1, last, pr1, hp3) ⟨by dsimp only; omega, hx, hf, hres⟩ (by dsimp only; omega)) ⟨rfl, rfl, sI (m1_pred (Nat.succ_pos w1)), trivial⟩
end
end
section
/-- what lineAt throws -/
def lineX (lc : Nat) (x : Int32) (E : String) : Prop := (lc = 0 ∧ E = ISE) ∨ (¬ lc = 0 ∧ lineB lc x = false ∧ E = IOB)
section
variable {l : Launch} {D : va_G} {dA ad sa : Nat → Nat} {L : List Nat} {hp : Nat → KE} {n inp an lc : Nat} {cl ex : Nat → Int64} {pr : Nat → Nat → Int64} {gt : Nat → GT}
theorem c_X2_size (hW : KF ad L) (hfl : l.stackTraces = false) (h : XR hp n inp an lc cl ex pr gt) (hlc : lc ≤ 10) (x : Int32) : KX l yX2_size cX2_size 2 (some .int) (rmK 8 2 12) D dA ad sa L [.ref 0, .int x] hp
    (fun r hp' => ∃ k, k < lc ∧ x = nI k ∧ r = some (.int (nI (cnt (pr k)))) ∧ hp' = hp) (fun E hp' => lineX lc x E ∧ hp' = hp) := by
  refine KX.of rfl ok_X2_size (len_of rfl) hW.1.1 hW.1.2 ?_
  intro p e s m args below meth c A hC hN hE
  have h0 := hW.2 0 (by decide)
  refine g_run hC 2 rfl ?_
  refine g_callVX hC hN hE (by decide) (fun E hp' q => q) [.int x] (c_X2_lineAt hW hfl h hlc x) rfl M_X2_116 h0 h.1 rfl rfl (len_of rfl) (by decide) (by decide) ?_
  rintro r hp1 ⟨k, hk, rfl, rfl, rfl⟩
  have hpk := h.2.2.2.2.2.1 k (by omega)
  refine g_callV hC hN [] (c_X1_monomialCount hW _ (34 + 2 * k) _ (by omega) hpk) rfl M_X2_105 (hW.2 _ (by omega)) hpk.1 rfl rfl (len_of rfl) (by decide) (by decide) ?_
  rintro r hp2 ⟨rfl, rfl⟩
  exact gx_iret hC rfl rfl ⟨k, hk, rfl, rfl, rfl⟩ (by decide) (by decide)
theorem c_X2_monomial (hW : KF ad L) (hfl : l.stackTraces = false) (h : XR hp n inp an lc cl ex pr gt) (hlc : lc ≤ 10) (x y : Int32) : KX l yX2_monomial cX2_monomial 4 (some .int) (rmK 8 3 18) D dA ad sa L [.ref 0, .int x, .int y] hp
    (fun r hp' => ∃ k i, k < lc ∧ x = nI k ∧ i < cnt (pr k) ∧ y = nI i ∧ r = some (.int (nI (monAt (pr k) 511 i))) ∧ hp' = hp)
    (fun E hp' => (lineX lc x E ∨ (∃ k, k < lc ∧ x = nI k ∧ (¬ ∃ i, i < cnt (pr k) ∧ y = nI i) ∧ E = IOB)) ∧ hp' = hp) := by
  refine KX.of rfl ok_X2_monomial (len_of rfl) hW.1.1 hW.1.2 ?_
  intro p e s m args below meth c A hC hN hE
  have h0 := hW.2 0 (by decide)
  refine g_run hC 2 rfl ?_
  refine g_callVX hC hN hE (by decide) (fun E hp' q => ⟨Or.inl q.1, q.2⟩) [.int x] (c_X2_lineAt hW hfl h hlc x) rfl M_X2_116 h0 h.1 rfl rfl (len_of rfl) (by decide) (by decide) ?_
  rintro r hp1 ⟨k, hk, rfl, rfl, rfl⟩
  have hpk := h.2.2.2.2.2.1 k (by omega)
  have hcl := cnt_le (pr k)
  refine g_run hC 2 rfl ?_
  refine g_iflt (tgt := 18) hC rfl (by decide) (fun h1 => ?_) (fun h1 => ?_)
  · refine g_throw hC hN hE hfl T_120_122_124 rfl rfl rfl rfl rfl (by decide) (by decide) (by decide) ⟨Or.inr ⟨k, hk, rfl, ?_, rfl⟩, rfl⟩
    rintro ⟨i, hi, rfl⟩
    exact nI_pos (by omega) h1
  · refine g_run hC 2 rfl ?_
    refine g_callV hC hN [] (c_X1_monomialCount hW _ (34 + 2 * k) _ (by omega) hpk) rfl M_X2_105 (hW.2 _ (by omega)) hpk.1 rfl rfl (len_of rfl) (by decide) (by decide) ?_
    rintro r hp2 ⟨rfl, rfl⟩
    refine g_iclt (tgt := 28) hC rfl (by decide) (fun h2 => ?_) (fun h2 => ?_)
    · rcases pk_ix y (n := cnt (pr k)) (by omega) with h4 | h4 | ⟨i, hi, rfl⟩
      · exact absurd h4 h1
      · exact absurd h2 (Int32.not_lt.mpr h4)
      · refine g_run hC 2 rfl ?_
        refine g_callV hC hN [.int (nI i)] (c_X1_monomialAt hW _ (34 + 2 * k) i _ (by omega) hpk (by omega)) rfl M_X2_125 (hW.2 _ (by omega)) hpk.1 rfl rfl (len_of rfl) (by decide) (by decide) ?_
        rintro r hp2 ⟨rfl, rfl⟩
        exact gx_iret hC rfl rfl ⟨k, i, hk, rfl, hi, rfl, rfl, rfl⟩ (by decide) (by decide)
    · refine g_throw hC hN hE hfl T_120_122_124 rfl rfl rfl rfl rfl (by decide) (by decide) (by decide) ⟨Or.inr ⟨k, hk, rfl, ?_, rfl⟩, rfl⟩
      rintro ⟨i, hi, rfl⟩
      exact h2 (nI_lt hi (by omega))
theorem c_X2_coefficient (hW : KF ad L) (hfl : l.stackTraces = false) (h : XR hp n inp an lc cl ex pr gt) (hlc : lc ≤ 10) (hn : n ≤ 9) (x y : Int32) : KX l yX2_coefficient cX2_coefficient 4 (some .long) (rmK 8 3 18) D dA ad sa L [.ref 0, .int x, .int y] hp
    (fun r hp' => ∃ k i, k < lc ∧ x = nI k ∧ i < 2 ^ n ∧ y = nI i ∧ r = some (.long (pr k i)) ∧ hp' = hp)
    (fun E hp' => (lineX lc x E ∨ ((∃ k, k < lc ∧ x = nI k) ∧ setB n y = false ∧ E = IOB)) ∧ hp' = hp) := by
  refine KX.of rfl ok_X2_coefficient (len_of rfl) hW.1.1 hW.1.2 ?_
  intro p e s m args below meth c A hC hN hE
  have h0 := hW.2 0 (by decide)
  have h2 := p2_lt hn
  refine g_run hC 2 rfl ?_
  refine g_callVX hC hN hE (by decide) (fun E hp' q => ⟨Or.inl q.1, q.2⟩) [.int x] (c_X2_lineAt hW hfl h hlc x) rfl M_X2_116 h0 h.1 rfl rfl (len_of rfl) (by decide) (by decide) ?_
  rintro r hp1 ⟨k, hk, rfl, rfl, rfl⟩
  have hpk := h.2.2.2.2.2.1 k (by omega)
  refine g_run hC 3 rfl ?_
  refine g_callVX hC hN hE (by decide) (fun E hp' q => ⟨Or.inr ⟨⟨k, hk, rfl⟩, q.1, q.2.1⟩, q.2.2⟩) [.int y] (c_X2_refuseSet hW hfl h hn y) rfl M_X2_128 h0 h.1 rfl rfl (len_of rfl) (by decide) (by decide) ?_
  rintro r hp2 ⟨hb, rfl, rfl⟩
  obtain ⟨i, hi, rfl⟩ := (setB_iff hn).mp hb
  refine g_run hC 2 rfl ?_
  refine g_callV hC hN [.int (nI i)] (c_X1_numberOf hW _ (34 + 2 * k) i _ (by omega) hpk (by omega)) rfl M_X2_131 (hW.2 _ (by omega)) hpk.1 rfl rfl (len_of rfl) (by decide) (by decide) ?_
  rintro r hp2 ⟨rfl, rfl⟩
  exact gx_lret hC rfl rfl ⟨k, i, hk, rfl, hi, rfl, rfl, rfl⟩ (by decide) (by decide)
theorem c_X2_spoil (hW : KF ad L) (hfl : l.stackTraces = false) (h : XR hp n inp an lc cl ex pr gt) (hlc : lc ≤ 10) (hn : n ≤ 9) (x y z : Int32) : KX l yX2_spoil cX2_spoil 6 (some .long) (rmK 8 4 24) D dA ad sa L [.ref 0, .int x, .int y, .int z] hp
    (fun r hp' => ∃ k i, k < lc ∧ x = nI k ∧ i < 2 ^ n ∧ y = nI i ∧ ¬ (¬ z = 0 ∧ pr k i = 0 ∧ 40 ≤ cnt (pr k)) ∧ r = some (.long (pr k i + z.toInt64)) ∧ XR hp' n inp an lc cl ex (va_up pr k (inc (pr k) i z.toInt64)) gt ∧ FX hp hp')
    (fun E hp' => (lineX lc x E ∨ ((∃ k, k < lc ∧ x = nI k) ∧ setB n y = false ∧ E = IOB) ∨ (∃ k i, k < lc ∧ x = nI k ∧ i < 2 ^ n ∧ y = nI i ∧ (¬ z = 0 ∧ pr k i = 0 ∧ 40 ≤ cnt (pr k)) ∧ E = AEX)) ∧ hp' = hp) := by
  refine KX.of rfl ok_X2_spoil (len_of rfl) hW.1.1 hW.1.2 ?_
  intro p e s m args below meth c A hC hN hE
  have h0 := hW.2 0 (by decide)
  have h2 := p2_lt hn
  refine g_run hC 2 rfl ?_
  refine g_callVX hC hN hE (by decide) (fun E hp' q => ⟨Or.inl q.1, q.2⟩) [.int x] (c_X2_lineAt hW hfl h hlc x) rfl M_X2_116 h0 h.1 rfl rfl (len_of rfl) (by decide) (by decide) ?_
  rintro r hp1 ⟨k, hk, rfl, rfl, rfl⟩
  have hpk := h.2.2.2.2.2.1 k (by omega)
  have hcl := cnt_le (pr k)
  refine g_run hC 3 rfl ?_
  refine g_callVX hC hN hE (by decide) (fun E hp' q => ⟨Or.inr (Or.inl ⟨⟨k, hk, rfl⟩, q.1, q.2.1⟩), q.2.2⟩) [.int y] (c_X2_refuseSet hW hfl h hn y) rfl M_X2_128 h0 h.1 rfl rfl (len_of rfl) (by decide) (by decide) ?_
  rintro r hp2 ⟨hb, rfl, rfl⟩
  obtain ⟨i, hi, rfl⟩ := (setB_iff hn).mp hb
  refine g_run hC 1 rfl ?_
  refine g_cutA (ι := Unit) (fun _ => ¬ (¬ z = 0 ∧ pr k i = 0 ∧ 40 ≤ cnt (pr k))) (fun _ => hp2) 59 (fun _ => [(0, .ref 0), (2, .int (nI i)), (3, .int z), (4, .ref (34 + 2 * k))]) (fun _ => []) ?_ (fun t59 => ?_)
  · intro _ hno
    refine g_run hC 4 rfl ?_
    refine g_callV hC hN [.int (nI i), .long z.toInt64] (c_X1_increase hW _ (34 + 2 * k) i _ _ (by omega) hpk (by omega)) rfl M_X2_76 (hW.2 _ (by omega)) hpk.1 rfl rfl (len_of rfl) (by decide) (by decide) ?_
    rintro r hp3 ⟨rfl, rfl⟩
    exact gx_lret hC rfl rfl ⟨k, i, hk, rfl, hi, rfl, hno, rfl, h.setpr (by omega), FX.setP (by omega)⟩ (by decide) (by decide)
  · refine g_cutA (ι := Bool) (fun b => b = decide (¬ z = 0 ∧ pr k i = 0)) (fun _ => hp2) 32 (fun _ => [(0, .ref 0), (2, .int (nI i)), (3, .int z), (4, .ref (34 + 2 * k))]) (fun b => [.int (bI b)]) ?_ (fun t32 => ?_)
    · rintro b rfl
      refine g_run hC 2 rfl ?_
      by_cases hz : ¬ z = 0 ∧ pr k i = 0
      · rw [decide_eq_true hz]
        refine g_ifeq (tgt := 59) hC rfl (by decide) (fun h3 => absurd h3 (by decide)) (fun _ => ?_)
        refine g_run hC 1 rfl ?_
        refine g_callV hC hN [] (c_X1_monomialCount hW _ (34 + 2 * k) _ (by omega) hpk) rfl M_X2_105 (hW.2 _ (by omega)) hpk.1 rfl rfl (len_of rfl) (by decide) (by decide) ?_
        rintro r hp3 ⟨rfl, rfl⟩
        refine g_run hC 1 rfl ?_
        refine g_iclt (tgt := 59) hC rfl (by decide) (fun h3 => ?_) (fun h3 => ?_)
        · have h4 := (nI_ltI (b := 40) (by omega) (by decide)).mp h3
          exact g_lvs (t59 () (fun q => by omega)) ⟨rfl, rfl, rfl, rfl, trivial⟩
        · have h4 : ¬ cnt (pr k) < 40 := fun q => h3 ((nI_ltI (b := 40) (by omega) (by decide)).mpr q)
          exact g_throw hC hN hE hfl T_108_134_112 rfl rfl rfl rfl rfl (by decide) (by decide) (by decide) ⟨Or.inr (Or.inr ⟨k, i, hk, rfl, hi, rfl, ⟨hz.1, hz.2, by omega⟩, rfl⟩), rfl⟩
      · rw [decide_eq_false hz]
        refine g_ifeq (tgt := 59) hC rfl (by decide) (fun _ => ?_) (fun h3 => absurd rfl h3)
        exact g_lvs (t59 () (fun q => hz ⟨q.1, q.2.1⟩)) ⟨rfl, rfl, rfl, rfl, trivial⟩
    · refine g_ifeq (tgt := 31) hC rfl (by decide) (fun h3 => ?_) (fun h3 => ?_)
      · refine g_run hC 1 rfl ?_
        exact g_lvs (t32 false (decide_eq_false (fun q => q.1 h3)).symm) ⟨rfl, rfl, rfl, rfl, trivial⟩
      · refine g_run hC 2 rfl ?_
        refine g_callV hC hN [.int (nI i)] (c_X1_numberOf hW _ (34 + 2 * k) i _ (by omega) hpk (by omega)) rfl M_X2_131 (hW.2 _ (by omega)) hpk.1 rfl rfl (len_of rfl) (by decide) (by decide) ?_
        rintro r hp3 ⟨rfl, rfl⟩
        refine g_run hC 2 rfl ?_
        refine g_ifne (tgt := 31) hC rfl (by decide) (fun h4 => ?_) (fun h4 => ?_)
        · refine g_run hC 1 rfl ?_
          exact g_lvs (t32 false (decide_eq_false (fun q => h4 ((cmpz _).mpr q.2))).symm) ⟨rfl, rfl, rfl, rfl, trivial⟩
        · refine g_run hC 2 rfl ?_
          exact g_lvs (t32 true (decide_eq_true ⟨h3, (cmpz _).mp h4⟩).symm) ⟨rfl, rfl, rfl, rfl, trivial⟩
theorem c_X2_clear (hW : KF ad L) (h : XR hp n inp an lc cl ex pr gt) : KM l yX2_clear cX2_clear 2 (some .int) (rmK 2 0 0) D dA ad sa L [.ref 0] hp (fun r hp' => r = some (.int (nI n)) ∧ XR hp' 0 0 0 0 (fun _ => 0) ex pr gt ∧ FX hp hp') := by
  refine KM.of rfl ok_X2_clear (len_of rfl) hW.1.1 hW.1.2 ?_
  intro p e s m args below meth c A hC hN
  have h0 := hW.2 0 (by decide)
  refine g_run hC 1 rfl ?_
  refine g_get hC rfl F_X2_37 h0 h.1 rfl ?_
  refine g_run hC 3 rfl ?_
  refine g_putI hC rfl F_X2_37 h0 h.1 (len_of rfl) rfl rfl ?_
  have h1 := h.obj (n2 := 0) (inp2 := inp) (an2 := an) (lc2 := lc)
  refine g_run hC 2 rfl ?_
  refine g_putI hC rfl F_X2_33 h0 h1.1 (len_of rfl) rfl rfl ?_
  have h2 := h1.obj (n2 := 0) (inp2 := 0) (an2 := an) (lc2 := lc)
  refine g_run hC 1 rfl ?_
  refine g_get hC rfl F_X2_18 h0 h2.1 rfl ?_
  refine g_callV hC hN [] (c_X1_erase hW _ 2 cl (by decide) h2.2.2.2.1) rfl M_X2_151 (hW.2 2 (by decide)) h2.2.2.2.1.1 rfl rfl (len_of rfl) (by decide) (by decide) ?_
  rintro r hp1 ⟨rfl, rfl⟩
  have h3 := h2.setcl (r := fun _ => 0)
  refine g_run hC 2 rfl ?_
  refine g_putI hC rfl F_X2_68 h0 h3.1 (len_of rfl) rfl rfl ?_
  have h4 := h3.obj (n2 := 0) (inp2 := 0) (an2 := 0) (lc2 := lc)
  refine g_run hC 1 rfl ?_
  refine g_callV hC hN [] (c_X2_dropProof hW h4) rfl M_X2_80 h0 h4.1 rfl rfl (len_of rfl) (by decide) (by decide) ?_
  rintro r hp2 ⟨rfl, h5, h6⟩
  refine g_run hC 1 rfl ?_
  exact g_iret hC rfl rfl ⟨rfl, h5, (((FX.up (by decide)).tr (FX.up (by decide))).tr ((FX.setP (by decide)).tr (FX.up (by decide)))).tr h6⟩ (Nat.le_refl _) (Nat.le_refl _)
theorem c_X2_check (hW : KF ad L) (hfl : l.stackTraces = false) (h : XR hp n inp an lc cl ex pr gt) (hg : XG n inp gt) (hlc : lc ≤ 10) : KX l yX2_check cX2_check 3 (some .int) (rmK 7 1 6) D dA ad sa L [.ref 0] hp
    (fun r hp' => ¬ lc = 0 ∧ r = some (.int (nI (if eqR (pr 0) cl = true then (chkN inp gt pr n 0).getD lc else 0))) ∧ (∃ ex', XR hp' n inp an lc cl ex' pr gt) ∧ FX hp hp')
    (fun E hp' => lc = 0 ∧ E = ISE ∧ hp' = hp) := by
  refine KX.of rfl ok_X2_check (len_of rfl) hW.1.1 hW.1.2 ?_
  intro p e s m args below meth c A hC hN hE
  obtain ⟨hn, hi, hgd⟩ := hg
  have h0 := hW.2 0 (by decide)
  have hi5 : inp < 512 := Nat.lt_of_lt_of_le hi (p2_lt hn)
  refine g_run hC 1 rfl ?_
  refine g_callVX hC hN hE (by decide) (fun E hp' q => q) [] (c_X2_refuseWithout hW hfl h (by omega)) rfl M_X2_136 h0 h.1 rfl rfl (len_of rfl) (by decide) (by decide) ?_
  rintro r hp1 ⟨hl0, rfl, rfl⟩
  refine g_run hC 1 rfl ?_
  refine g_get hC rfl F_X2_22 h0 h.1 rfl ?_
  refine g_run hC 1 rfl ?_
  refine g_ald (C := RX1) (t := 3) hC 0 rfl (hW.2 4 (by decide)) h.2.2.1 rfl rfl (by decide) (by decide) rfl ?_
  refine g_run hC 1 rfl ?_
  refine g_get hC rfl F_X2_18 h0 h.1 rfl ?_
  have hp0 := h.2.2.2.2.2.1 0 (by decide)
  refine g_callV hC hN [.ref 2] (c_X1_isSameAs hW hp1 34 2 _ cl (by decide) hp0 (by decide) h.2.2.2.1) rfl M_X2_139 (hW.2 34 (by decide)) hp0.1 rfl rfl (len_of rfl) (by decide) (by decide) ?_
  rintro r hp2 ⟨rfl, rfl⟩
  cases he : eqR (pr 0) cl with
  | false =>
    refine g_ifne (tgt := 22) hC rfl (by decide) (fun h1 => absurd rfl h1) (fun _ => ?_)
    refine g_run hC 1 rfl ?_
    exact gx_iret hC rfl rfl ⟨hl0, rfl, ⟨ex, h⟩, FX.rf⟩ (by decide) (by decide)
  | true =>
    refine g_ifne (tgt := 22) hC rfl (by decide) (fun _ => ?_) (fun h1 => absurd h1 (by decide))
    rw [if_pos rfl]
    generalize hRES : chkN inp gt pr n 0 = RES
    refine g_run hC 3 rfl ?_
    refine g_get hC rfl F_X2_37 h0 h.1 rfl ?_
    refine g_run hC 1 rfl ?_
    refine g_ind (σ := Nat × Nat × (Nat → Int64) × (Nat → KE)) (fun x => x.1) (fun x => x.2.1 + x.1 ≤ n ∧ XR x.2.2.2 n inp an lc cl x.2.2.1 pr gt ∧ FX hp2 x.2.2.2 ∧ chkN inp gt pr x.1 x.2.1 = RES) (fun x => x.2.2.2) (fun x => [(0, .ref 0), (1, .int (nI x.2.1)), (2, .int (nI x.1))]) (n, 0, ex, hp2) ⟨Nat.le_of_eq (Nat.zero_add n), h, FX.rf, hRES⟩ rfl ⟨rfl, rfl, rfl, trivial⟩ ?_
    rintro ⟨w, line, ex1, hp3⟩ ⟨hwl, hx, hf, hres⟩ ih
    dsimp only at hwl hx hf hres ih ⊢
    refine g_run hC 2 rfl ?_
    refine g_iclt (tgt := 96) hC rfl (by decide) (fun h2 => ?_) (fun h2 => ?_)
    · have hw0 : w = 0 := by
        have := (nI_ltI (a := w) (b := 1) (by omega) (by decide)).mp h2
        omega
      subst hw0
      simp only [chkN] at hres
      refine g_run hC 1 rfl ?_
      refine g_get hC rfl F_X2_113 h0 hx.1 rfl ?_
      refine gx_iret hC rfl rfl ⟨hl0, ?_, ⟨ex1, hx⟩, hf⟩ (by decide) (by decide)
      rw [← hres]; rfl
    · have hw0 : ¬ w < 1 := fun z => h2 ((nI_ltI (a := w) (b := 1) (by omega) (by decide)).mpr z)
      obtain ⟨w1, rfl⟩ : ∃ k, w = k + 1 := ⟨w - 1, by omega⟩
      simp only [chkN] at hres
      refine g_run hC 2 rfl ?_
      refine g_callV hC hN [.int (nI (w1 + 1))] (c_X2_isGate hW hx w1 hi5 (by omega)) rfl M_X2_98 h0 hx.1 rfl rfl (len_of rfl) (by decide) (by decide) ?_
      rintro r hp4 ⟨rfl, rfl⟩
      by_cases hb : inp &&& 2 ^ w1 = 0
      · rw [decide_eq_true hb]
        rw [if_pos hb] at hres
        have hgg := hgd w1 (by omega) hb
        refine g_ifeq (tgt := 90) hC rfl (by decide) (fun h3 => absurd h3 (by decide)) (fun _ => ?_)
        refine g_run hC 2 rfl ?_
        refine g_get hC rfl F_X2_26 h0 hx.1 rfl ?_
        refine g_run hC 1 rfl ?_
        refine g_get hC rfl F_X2_22 h0 hx.1 rfl ?_
        refine g_run hC 3 rfl ?_
        refine g_ald (C := RX1) (t := 3) hC line rfl (hW.2 4 (by decide)) hx.2.2.1 rfl ?_ (by omega) (by decide) rfl ?_
        · show nI line + cI 1 - nI 1 = nI line
          rw [nI_s]; exact pk_sub (a := line + 1) (b := 1) (by omega)
        refine g_run hC 1 rfl ?_
        refine g_callS hC hN [.int (nI (w1 + 1))] (c_X2_bitOf hW hp4 (w1 + 1) (by omega) (by omega)) rfl M_X2_40 rfl (len_of rfl) (by decide) (by decide) ?_
        rintro r hp5 ⟨rfl, rfl⟩
        refine g_run hC 1 rfl ?_
        refine g_get hC rfl F_X2_11 h0 hx.1 rfl ?_
        refine g_run hC 3 rfl ?_
        refine g_ald (C := RX0) (t := 2) hC w1 rfl (hW.2 1 (by decide)) hx.2.1 rfl (pk_sub (a := w1 + 1) (b := 1) (by omega)) (by omega) (by decide) rfl ?_
        have q1 := hx.2.2.2.2.1
        have q2 := hx.2.2.2.2.2.1 line (by omega)
        have q3 := hx.2.2.2.2.2.2 w1 (by omega)
        refine g_callV hC hN [.ref (34 + 2 * line), .int (nI (2 ^ (w1 + 1 - 1))), .ref (7 + 3 * w1)] (c_X1_becomeElimination hW hp5 5 (34 + 2 * line) (7 + 3 * w1) (w1 + 1 - 1) _ _ _ _ _ _ _ _ (by omega) q1 (by omega) q2 (by omega) q3 (by omega) (by omega) (by omega) (by omega) (by omega) (by omega) (by omega) (by omega) (hgg.lt (by omega))) rfl M_X2_101 (hW.2 5 (by decide)) q1.1 rfl rfl (len_of rfl) (by decide) (by decide) ?_
        rintro r hp6 ⟨rfl, rfl⟩
        rw [Nat.add_sub_cancel]
        have h4 := hx.setex (r := elimC (pr line) (2 ^ w1) (gt w1).2.2.2.2.1 (gt w1).2.2.2.2.2)
        refine g_run hC 1 rfl ?_
        refine g_get hC rfl F_X2_22 h0 h4.1 rfl ?_
        refine g_run hC 1 rfl ?_
        refine g_ald (C := RX1) (t := 3) hC (line + 1) rfl (hW.2 4 (by decide)) h4.2.2.1 rfl (nI_s line) (by omega) (by decide) rfl ?_
        refine g_run hC 1 rfl ?_
        refine g_get hC rfl F_X2_26 h0 h4.1 rfl ?_
        have q4 := h4.2.2.2.2.2.1 (line + 1) (by omega)
        refine g_callV hC hN [.ref 5] (c_X1_isSameAs hW _ (34 + 2 * (line + 1)) 5 _ _ (by omega) q4 (by omega) h4.2.2.2.2.1) rfl M_X2_139 (hW.2 _ (by omega)) q4.1 rfl rfl (len_of rfl) (by decide) (by decide) ?_
        rintro r hp7 ⟨rfl, rfl⟩
        cases hq : eqR (pr (line + 1)) (elimC (pr line) (2 ^ w1) (gt w1).2.2.2.2.1 (gt w1).2.2.2.2.2) with
        | true =>
          rw [hq, if_pos rfl] at hres
          refine g_ifne (tgt := 90) hC rfl (by decide) (fun _ => ?_) (fun h1 => absurd h1 (by decide))
          refine g_run hC 2 rfl ?_
          exact g_lvs (ih (w1, line + 1, _, _) ⟨by dsimp only; omega, h4, hf.tr (FX.setP (by decide)), hres⟩ (by dsimp only; omega)) ⟨rfl, sI (nI_s line), sI (m1_pred (Nat.succ_pos w1)), trivial⟩
        | false =>
          rw [hq, if_neg (by decide)] at hres
          refine g_ifne (tgt := 90) hC rfl (by decide) (fun h1 => absurd rfl h1) (fun _ => ?_)
          refine g_run hC 1 rfl ?_
          refine g_top (nI (line + 1)) (nI_s line) ?_
          refine gx_iret hC rfl rfl ⟨hl0, ?_, ⟨_, h4⟩, hf.tr (FX.setP (by decide))⟩ (by decide) (by decide)
          rw [← hres]; rfl
      · rw [decide_eq_false hb]
        rw [if_neg hb] at hres
        refine g_ifeq (tgt := 90) hC rfl (by decide) (fun _ => ?_) (fun h3 => absurd rfl h3)
        refine g_run hC 2 rfl ?_
        exact g_lvs (ih (w1, line, ex1, hp4) ⟨by dsimp only; omega, hx, hf, hres⟩ (by dsimp only; omega)) ⟨rfl, rfl, sI (m1_pred (Nat.succ_pos w1)), trivial⟩
end
end
section
def MObj (th wi an li : Nat) : KE := kO 3 [.int (nI th), .int (nI wi), .ref 55, .ref 56, .ref 57, .ref 58, .int (nI an), .ref 59, .int (nI li), .ref 60, .ref 61, .ref 62, .ref 63, .ref 64]
/-- the reference's objects -/
def MR (hp : Nat → KE) (th wi an li : Nat) (ki fi se tr : Nat → Int32) (cl : Nat → Int64) (si st : Nat → Nat) (nu wo fr : Nat → Int64) : Prop :=
  hp 54 = MObj th wi an li ∧ hp 55 = kI 10 ki ∧ hp 56 = kI 10 fi ∧ hp 57 = kI 10 se ∧ hp 58 = kI 10 tr ∧ hp 59 = kJ 512 cl ∧ hp 60 = kI 10 (fun k => nI (si k)) ∧ hp 61 = kI 400 (fun k => nI (st k)) ∧ hp 62 = kJ 400 nu ∧ hp 63 = kJ 512 wo ∧ hp 64 = kJ 512 fr
def FM (hp hp' : Nat → KE) : Prop := ∀ k, k < 54 ∨ 65 ≤ k → hp' k = hp k
theorem FM.rf {hp : Nat → KE} : FM hp hp := fun _ _ => rfl
theorem FM.tr {a b c : Nat → KE} (h1 : FM a b) (h2 : FM b c) : FM a c := fun k hk => (h2 k hk).trans (h1 k hk)
theorem FM.up {hp : Nat → KE} {q : Nat} {x : KE} (h1 : 54 ≤ q) (h2 : q < 65) : FM hp (va_up hp q x) := fun k hk => va_up_ne _ _ (by omega)
section
variable {hp : Nat → KE} {th wi an li th2 wi2 an2 li2 : Nat} {ki fi se tr : Nat → Int32} {cl : Nat → Int64} {si st : Nat → Nat} {nu wo fr : Nat → Int64}
theorem MR.g100 (h : MR hp th wi an li ki fi se tr cl si st nu wo fr) : hp 54 = MObj th wi an li := h.1
theorem MR.g101 (h : MR hp th wi an li ki fi se tr cl si st nu wo fr) : hp 55 = kI 10 ki := h.2.1
theorem MR.g102 (h : MR hp th wi an li ki fi se tr cl si st nu wo fr) : hp 56 = kI 10 fi := h.2.2.1
theorem MR.g103 (h : MR hp th wi an li ki fi se tr cl si st nu wo fr) : hp 57 = kI 10 se := h.2.2.2.1
theorem MR.g104 (h : MR hp th wi an li ki fi se tr cl si st nu wo fr) : hp 58 = kI 10 tr := h.2.2.2.2.1
theorem MR.g105 (h : MR hp th wi an li ki fi se tr cl si st nu wo fr) : hp 59 = kJ 512 cl := h.2.2.2.2.2.1
theorem MR.g106 (h : MR hp th wi an li ki fi se tr cl si st nu wo fr) : hp 60 = kI 10 (fun k => nI (si k)) := h.2.2.2.2.2.2.1
theorem MR.g107 (h : MR hp th wi an li ki fi se tr cl si st nu wo fr) : hp 61 = kI 400 (fun k => nI (st k)) := h.2.2.2.2.2.2.2.1
theorem MR.g108 (h : MR hp th wi an li ki fi se tr cl si st nu wo fr) : hp 62 = kJ 400 nu := h.2.2.2.2.2.2.2.2.1
theorem MR.g109 (h : MR hp th wi an li ki fi se tr cl si st nu wo fr) : hp 63 = kJ 512 wo := h.2.2.2.2.2.2.2.2.2.1
theorem MR.g110 (h : MR hp th wi an li ki fi se tr cl si st nu wo fr) : hp 64 = kJ 512 fr := h.2.2.2.2.2.2.2.2.2.2
theorem MR.obj (h : MR hp th wi an li ki fi se tr cl si st nu wo fr) : MR (va_up hp 54 (MObj th2 wi2 an2 li2)) th2 wi2 an2 li2 ki fi se tr cl si st nu wo fr := ⟨va_up_self _ _ _, (va_up_ne _ _ (by decide)).trans h.2.1, (va_up_ne _ _ (by decide)).trans h.2.2.1, (va_up_ne _ _ (by decide)).trans h.2.2.2.1, (va_up_ne _ _ (by decide)).trans h.2.2.2.2.1, (va_up_ne _ _ (by decide)).trans h.2.2.2.2.2.1, (va_up_ne _ _ (by decide)).trans h.2.2.2.2.2.2.1, (va_up_ne _ _ (by decide)).trans h.2.2.2.2.2.2.2.1, (va_up_ne _ _ (by decide)).trans h.2.2.2.2.2.2.2.2.1, (va_up_ne _ _ (by decide)).trans h.2.2.2.2.2.2.2.2.2.1, (va_up_ne _ _ (by decide)).trans h.2.2.2.2.2.2.2.2.2.2⟩
theorem MR.s_ki {x9 : Nat → Int32} (h : MR hp th wi an li ki fi se tr cl si st nu wo fr) : MR (va_up hp 55 (kI 10 x9)) th wi an li x9 fi se tr cl si st nu wo fr := ⟨(va_up_ne _ _ (by decide)).trans h.1, va_up_self _ _ _, (va_up_ne _ _ (by decide)).trans h.2.2.1, (va_up_ne _ _ (by decide)).trans h.2.2.2.1, (va_up_ne _ _ (by decide)).trans h.2.2.2.2.1, (va_up_ne _ _ (by decide)).trans h.2.2.2.2.2.1, (va_up_ne _ _ (by decide)).trans h.2.2.2.2.2.2.1, (va_up_ne _ _ (by decide)).trans h.2.2.2.2.2.2.2.1, (va_up_ne _ _ (by decide)).trans h.2.2.2.2.2.2.2.2.1, (va_up_ne _ _ (by decide)).trans h.2.2.2.2.2.2.2.2.2.1, (va_up_ne _ _ (by decide)).trans h.2.2.2.2.2.2.2.2.2.2⟩
theorem MR.s_fi {x9 : Nat → Int32} (h : MR hp th wi an li ki fi se tr cl si st nu wo fr) : MR (va_up hp 56 (kI 10 x9)) th wi an li ki x9 se tr cl si st nu wo fr := ⟨(va_up_ne _ _ (by decide)).trans h.1, (va_up_ne _ _ (by decide)).trans h.2.1, va_up_self _ _ _, (va_up_ne _ _ (by decide)).trans h.2.2.2.1, (va_up_ne _ _ (by decide)).trans h.2.2.2.2.1, (va_up_ne _ _ (by decide)).trans h.2.2.2.2.2.1, (va_up_ne _ _ (by decide)).trans h.2.2.2.2.2.2.1, (va_up_ne _ _ (by decide)).trans h.2.2.2.2.2.2.2.1, (va_up_ne _ _ (by decide)).trans h.2.2.2.2.2.2.2.2.1, (va_up_ne _ _ (by decide)).trans h.2.2.2.2.2.2.2.2.2.1, (va_up_ne _ _ (by decide)).trans h.2.2.2.2.2.2.2.2.2.2⟩
theorem MR.s_se {x9 : Nat → Int32} (h : MR hp th wi an li ki fi se tr cl si st nu wo fr) : MR (va_up hp 57 (kI 10 x9)) th wi an li ki fi x9 tr cl si st nu wo fr := ⟨(va_up_ne _ _ (by decide)).trans h.1, (va_up_ne _ _ (by decide)).trans h.2.1, (va_up_ne _ _ (by decide)).trans h.2.2.1, va_up_self _ _ _, (va_up_ne _ _ (by decide)).trans h.2.2.2.2.1, (va_up_ne _ _ (by decide)).trans h.2.2.2.2.2.1, (va_up_ne _ _ (by decide)).trans h.2.2.2.2.2.2.1, (va_up_ne _ _ (by decide)).trans h.2.2.2.2.2.2.2.1, (va_up_ne _ _ (by decide)).trans h.2.2.2.2.2.2.2.2.1, (va_up_ne _ _ (by decide)).trans h.2.2.2.2.2.2.2.2.2.1, (va_up_ne _ _ (by decide)).trans h.2.2.2.2.2.2.2.2.2.2⟩
theorem MR.s_tr {x9 : Nat → Int32} (h : MR hp th wi an li ki fi se tr cl si st nu wo fr) : MR (va_up hp 58 (kI 10 x9)) th wi an li ki fi se x9 cl si st nu wo fr := ⟨(va_up_ne _ _ (by decide)).trans h.1, (va_up_ne _ _ (by decide)).trans h.2.1, (va_up_ne _ _ (by decide)).trans h.2.2.1, (va_up_ne _ _ (by decide)).trans h.2.2.2.1, va_up_self _ _ _, (va_up_ne _ _ (by decide)).trans h.2.2.2.2.2.1, (va_up_ne _ _ (by decide)).trans h.2.2.2.2.2.2.1, (va_up_ne _ _ (by decide)).trans h.2.2.2.2.2.2.2.1, (va_up_ne _ _ (by decide)).trans h.2.2.2.2.2.2.2.2.1, (va_up_ne _ _ (by decide)).trans h.2.2.2.2.2.2.2.2.2.1, (va_up_ne _ _ (by decide)).trans h.2.2.2.2.2.2.2.2.2.2⟩
theorem MR.s_cl {x9 : Nat → Int64} (h : MR hp th wi an li ki fi se tr cl si st nu wo fr) : MR (va_up hp 59 (kJ 512 x9)) th wi an li ki fi se tr x9 si st nu wo fr := ⟨(va_up_ne _ _ (by decide)).trans h.1, (va_up_ne _ _ (by decide)).trans h.2.1, (va_up_ne _ _ (by decide)).trans h.2.2.1, (va_up_ne _ _ (by decide)).trans h.2.2.2.1, (va_up_ne _ _ (by decide)).trans h.2.2.2.2.1, va_up_self _ _ _, (va_up_ne _ _ (by decide)).trans h.2.2.2.2.2.2.1, (va_up_ne _ _ (by decide)).trans h.2.2.2.2.2.2.2.1, (va_up_ne _ _ (by decide)).trans h.2.2.2.2.2.2.2.2.1, (va_up_ne _ _ (by decide)).trans h.2.2.2.2.2.2.2.2.2.1, (va_up_ne _ _ (by decide)).trans h.2.2.2.2.2.2.2.2.2.2⟩
theorem MR.s_si {x9 : Nat → Nat} (h : MR hp th wi an li ki fi se tr cl si st nu wo fr) : MR (va_up hp 60 (kI 10 (fun k => nI (x9 k)))) th wi an li ki fi se tr cl x9 st nu wo fr := ⟨(va_up_ne _ _ (by decide)).trans h.1, (va_up_ne _ _ (by decide)).trans h.2.1, (va_up_ne _ _ (by decide)).trans h.2.2.1, (va_up_ne _ _ (by decide)).trans h.2.2.2.1, (va_up_ne _ _ (by decide)).trans h.2.2.2.2.1, (va_up_ne _ _ (by decide)).trans h.2.2.2.2.2.1, va_up_self _ _ _, (va_up_ne _ _ (by decide)).trans h.2.2.2.2.2.2.2.1, (va_up_ne _ _ (by decide)).trans h.2.2.2.2.2.2.2.2.1, (va_up_ne _ _ (by decide)).trans h.2.2.2.2.2.2.2.2.2.1, (va_up_ne _ _ (by decide)).trans h.2.2.2.2.2.2.2.2.2.2⟩
theorem MR.s_st {x9 : Nat → Nat} (h : MR hp th wi an li ki fi se tr cl si st nu wo fr) : MR (va_up hp 61 (kI 400 (fun k => nI (x9 k)))) th wi an li ki fi se tr cl si x9 nu wo fr := ⟨(va_up_ne _ _ (by decide)).trans h.1, (va_up_ne _ _ (by decide)).trans h.2.1, (va_up_ne _ _ (by decide)).trans h.2.2.1, (va_up_ne _ _ (by decide)).trans h.2.2.2.1, (va_up_ne _ _ (by decide)).trans h.2.2.2.2.1, (va_up_ne _ _ (by decide)).trans h.2.2.2.2.2.1, (va_up_ne _ _ (by decide)).trans h.2.2.2.2.2.2.1, va_up_self _ _ _, (va_up_ne _ _ (by decide)).trans h.2.2.2.2.2.2.2.2.1, (va_up_ne _ _ (by decide)).trans h.2.2.2.2.2.2.2.2.2.1, (va_up_ne _ _ (by decide)).trans h.2.2.2.2.2.2.2.2.2.2⟩
theorem MR.s_nu {x9 : Nat → Int64} (h : MR hp th wi an li ki fi se tr cl si st nu wo fr) : MR (va_up hp 62 (kJ 400 x9)) th wi an li ki fi se tr cl si st x9 wo fr := ⟨(va_up_ne _ _ (by decide)).trans h.1, (va_up_ne _ _ (by decide)).trans h.2.1, (va_up_ne _ _ (by decide)).trans h.2.2.1, (va_up_ne _ _ (by decide)).trans h.2.2.2.1, (va_up_ne _ _ (by decide)).trans h.2.2.2.2.1, (va_up_ne _ _ (by decide)).trans h.2.2.2.2.2.1, (va_up_ne _ _ (by decide)).trans h.2.2.2.2.2.2.1, (va_up_ne _ _ (by decide)).trans h.2.2.2.2.2.2.2.1, va_up_self _ _ _, (va_up_ne _ _ (by decide)).trans h.2.2.2.2.2.2.2.2.2.1, (va_up_ne _ _ (by decide)).trans h.2.2.2.2.2.2.2.2.2.2⟩
theorem MR.s_wo {x9 : Nat → Int64} (h : MR hp th wi an li ki fi se tr cl si st nu wo fr) : MR (va_up hp 63 (kJ 512 x9)) th wi an li ki fi se tr cl si st nu x9 fr := ⟨(va_up_ne _ _ (by decide)).trans h.1, (va_up_ne _ _ (by decide)).trans h.2.1, (va_up_ne _ _ (by decide)).trans h.2.2.1, (va_up_ne _ _ (by decide)).trans h.2.2.2.1, (va_up_ne _ _ (by decide)).trans h.2.2.2.2.1, (va_up_ne _ _ (by decide)).trans h.2.2.2.2.2.1, (va_up_ne _ _ (by decide)).trans h.2.2.2.2.2.2.1, (va_up_ne _ _ (by decide)).trans h.2.2.2.2.2.2.2.1, (va_up_ne _ _ (by decide)).trans h.2.2.2.2.2.2.2.2.1, va_up_self _ _ _, (va_up_ne _ _ (by decide)).trans h.2.2.2.2.2.2.2.2.2.2⟩
theorem MR.s_fr {x9 : Nat → Int64} (h : MR hp th wi an li ki fi se tr cl si st nu wo fr) : MR (va_up hp 64 (kJ 512 x9)) th wi an li ki fi se tr cl si st nu wo x9 := ⟨(va_up_ne _ _ (by decide)).trans h.1, (va_up_ne _ _ (by decide)).trans h.2.1, (va_up_ne _ _ (by decide)).trans h.2.2.1, (va_up_ne _ _ (by decide)).trans h.2.2.2.1, (va_up_ne _ _ (by decide)).trans h.2.2.2.2.1, (va_up_ne _ _ (by decide)).trans h.2.2.2.2.2.1, (va_up_ne _ _ (by decide)).trans h.2.2.2.2.2.2.1, (va_up_ne _ _ (by decide)).trans h.2.2.2.2.2.2.2.1, (va_up_ne _ _ (by decide)).trans h.2.2.2.2.2.2.2.2.1, (va_up_ne _ _ (by decide)).trans h.2.2.2.2.2.2.2.2.2.1, va_up_self _ _ _⟩
end
def litM (a p : Nat) : Nat := if a % 2 = 0 then (if a < 2 then 0 else p / 2 ^ (a / 2 - 1) % 2) else 1 - (if a < 2 then 0 else p / 2 ^ (a / 2 - 1) % 2)
set_option maxRecDepth 100000 in
theorem litM_eq : ∀ a : Nat, a < 20 → ∀ p : Nat, p < 512 → litM a p = litW a p := by decide +kernel
theorem smd : ∀ k : Nat, k < 32 → ((nI k &&& 31).toBitVec.smod 32).toNat = k := by decide +kernel
theorem shr_p {p k : Nat} (hp : p < 2 ^ 31) (hk : k < 32) : nI p >>> (nI k &&& 31) = nI (p / 2 ^ k) := pk_shrN hp _ k (smd k hk)
/-- what a wire of the reference's is -/
def mG (ki fi se tr : Nat → Int32) (w : Nat) (t : GT) : Prop := ki w = nI t.1 ∧ fi w = nI t.2.1 ∧ se w = nI t.2.2.1 ∧ (2 ≤ t.1 → tr w = nI t.2.2.2.1)
def MGs (n inp : Nat) (gt : Nat → GT) (ki fi se tr : Nat → Int32) : Prop := ∀ i, i < n → (inp &&& 2 ^ i = 0 → mG ki fi se tr (i + 1) (gt i)) ∧ (¬ inp &&& 2 ^ i = 0 → ki (i + 1) = cI (-1))
def gOut (t : GT) (p : Nat) : Nat := outc t.1 (litW t.2.1 p) (litW t.2.2.1 p) (litW t.2.2.2.1 p)
theorem gOut_lt {t : GT} {p : Nat} : gOut t p < 2 := outc_lt litW_lt litW_lt litW_lt
section
variable {l : Launch} {D : va_G} {dA ad sa : Nat → Nat} {L : List Nat} {hp : Nat → KE} {th wi an li : Nat} {ki fi se tr : Nat → Int32} {cl : Nat → Int64} {si st : Nat → Nat} {nu wo fr : Nat → Int64}
theorem c_X3_within (hW : KF ad L) (hp : Nat → KE) (v lo hi : Int32) : KM l yX3_within cX3_within 3 (some .boolean) (rmK 0 0 0) D dA ad sa L [.int v, .int lo, .int hi] hp (fun r hp' => r = some (.int (bI (decide (lo ≤ v) && decide (v ≤ hi)))) ∧ hp' = hp) := by
  refine KM.of rfl ok_X3_within (len_of rfl) hW.1.1 hW.1.2 ?_
  intro p e s m args below meth c A hC hN
  refine g_run hC 2 rfl ?_
  refine g_iclt (tgt := 14) hC rfl (by decide) (fun h1 => ?_) (fun h1 => ?_)
  · refine g_run hC 1 rfl ?_
    refine g_zret hC rfl rfl rfl ⟨?_, rfl⟩ (Nat.le_refl _) (Nat.le_refl _)
    rw [decide_eq_false (Int32.not_le.mpr h1)]; rfl
  · refine g_run hC 2 rfl ?_
    refine g_icgt (tgt := 14) hC rfl (by decide) (fun h2 => ?_) (fun h2 => ?_)
    · refine g_run hC 1 rfl ?_
      refine g_zret hC rfl rfl rfl ⟨?_, rfl⟩ (Nat.le_refl _) (Nat.le_refl _)
      rw [decide_eq_false (p := v ≤ hi) (Int32.not_le.mpr h2), Bool.and_false]; rfl
    · refine g_run hC 2 rfl ?_
      refine g_zret hC rfl rfl rfl ⟨?_, rfl⟩ (Nat.le_refl _) (Nat.le_refl _)
      rw [decide_eq_true (Int32.not_lt.mp h1), decide_eq_true (Int32.not_lt.mp h2)]; rfl
theorem c_X3_thrown (hW : KF ad L) (h : MR hp th wi an li ki fi se tr cl si st nu wo fr) : KM l yX3_thrown cX3_thrown 1 (some .int) (rmK 0 0 0) D dA ad sa L [.ref 54] hp (fun r hp' => r = some (.int (nI th)) ∧ hp' = hp) := by
  refine KM.of rfl ok_X3_thrown (len_of rfl) hW.1.1 hW.1.2 ?_
  intro p e s m args below meth c A hC hN
  refine g_run hC 1 rfl ?_
  refine g_get hC rfl F_X3_41 (hW.2 54 (by decide)) h.g100 rfl ?_
  exact g_iret hC rfl rfl ⟨rfl, rfl⟩ (Nat.le_refl _) (Nat.le_refl _)
theorem setM {n : Nat} {x : Int32} (hn : n ≤ 9) : (decide (nI 0 ≤ x) && decide (x ≤ nI (2 ^ n - 1))) = setB n x := by
  have h2 := p2_lt hn
  have h3 : 0 < 2 ^ n := Nat.two_pow_pos n
  unfold setB
  have e : x ≤ nI (2 ^ n - 1) ↔ x < nI (2 ^ n) := by
    rw [Int32.le_iff_toInt_le, Int32.lt_iff_toInt_lt, nI_toInt (by omega), nI_toInt (by omega)]
    omega
  rw [nI_0, decide_eq_decide.mpr e]
theorem c_X3_isSet (hW : KF ad L) (h : MR hp th wi an li ki fi se tr cl si st nu wo fr) (hn : wi ≤ 9) (x : Int32) : KM l yX3_isSet cX3_isSet 2 (some .boolean) (rmK 1 0 0) D dA ad sa L [.ref 54, .int x] hp (fun r hp' => r = some (.int (bI (setB wi x))) ∧ hp' = hp) := by
  refine KM.of rfl ok_X3_isSet (len_of rfl) hW.1.1 hW.1.2 ?_
  intro p e s m args below meth c A hC hN
  have h3 : 0 < 2 ^ wi := Nat.two_pow_pos wi
  refine g_run hC 4 rfl ?_
  refine g_get hC rfl F_X3_45 (hW.2 54 (by decide)) h.g100 rfl ?_
  refine g_run hC 3 rfl ?_
  refine g_top (nI (2 ^ wi - 1)) ?_ ?_
  · show cI 1 <<< (nI wi &&& 31) - nI 1 = _
    rw [shl_1 _ (by omega), pk_sub (by omega)]
  refine g_callS hC hN [.int x, .int (nI 0), .int (nI (2 ^ wi - 1))] (c_X3_within hW hp x _ _) rfl M_X3_48 rfl (len_of rfl) (by decide) (by decide) ?_
  rintro r hp1 ⟨rfl, rfl⟩
  rw [setM hn]
  exact g_zret hC (nar_b _) rfl rfl ⟨rfl, rfl⟩ (Nat.le_refl _) (Nat.le_refl _)
theorem c_X3_isLiteral (hW : KF ad L) (h : MR hp th wi an li ki fi se tr cl si st nu wo fr) (x : Int32) : KM l yX3_isLiteral cX3_isLiteral 2 (some .boolean) (rmK 1 0 0) D dA ad sa L [.ref 54, .int x] hp (fun r hp' => r = some (.int (bI (litB wi x))) ∧ hp' = hp) := by
  refine KM.of rfl ok_X3_isLiteral (len_of rfl) hW.1.1 hW.1.2 ?_
  intro p e s m args below meth c A hC hN
  refine g_run hC 4 rfl ?_
  refine g_get hC rfl F_X3_45 (hW.2 54 (by decide)) h.g100 rfl ?_
  refine g_run hC 3 rfl ?_
  refine g_top (nI (2 * wi + 1)) ?_ ?_
  · show nI 2 * nI wi + nI 1 = _
    rw [pk_mul, nI_add]
  refine g_callS hC hN [.int x, .int (nI 0), .int (nI (2 * wi + 1))] (c_X3_within hW hp x _ _) rfl M_X3_48 rfl (len_of rfl) (by decide) (by decide) ?_
  rintro r hp1 ⟨rfl, rfl⟩
  exact g_zret hC (nar_b _) rfl rfl ⟨rfl, rfl⟩ (Nat.le_refl _) (Nat.le_refl _)
theorem c_X3_wires (hW : KF ad L) (h : MR hp th wi an li ki fi se tr cl si st nu wo fr) : KM l yX3_wires cX3_wires 1 (some .int) (rmK 0 0 0) D dA ad sa L [.ref 54] hp (fun r hp' => r = some (.int (nI wi)) ∧ MR hp' 0 wi an li ki fi se tr cl si st nu wo fr ∧ FM hp hp') := by
  refine KM.of rfl ok_X3_wires (len_of rfl) hW.1.1 hW.1.2 ?_
  intro p e s m args below meth c A hC hN
  have h0 := hW.2 54 (by decide)
  refine g_run hC 2 rfl ?_
  refine g_putI hC rfl F_X3_41 h0 h.g100 (len_of rfl) rfl rfl ?_
  have h1 := h.obj (th2 := 0) (wi2 := wi) (an2 := an) (li2 := li)
  refine g_run hC 1 rfl ?_
  refine g_get hC rfl F_X3_45 h0 h1.g100 rfl ?_
  exact g_iret hC rfl rfl ⟨rfl, h1, FM.up (by decide) (by decide)⟩ (Nat.le_refl _) (Nat.le_refl _)
theorem c_X3_lines (hW : KF ad L) (h : MR hp th wi an li ki fi se tr cl si st nu wo fr) : KM l yX3_lines cX3_lines 1 (some .int) (rmK 0 0 0) D dA ad sa L [.ref 54] hp (fun r hp' => r = some (.int (nI li)) ∧ MR hp' 0 wi an li ki fi se tr cl si st nu wo fr ∧ FM hp hp') := by
  refine KM.of rfl ok_X3_lines (len_of rfl) hW.1.1 hW.1.2 ?_
  intro p e s m args below meth c A hC hN
  have h0 := hW.2 54 (by decide)
  refine g_run hC 2 rfl ?_
  refine g_putI hC rfl F_X3_41 h0 h.g100 (len_of rfl) rfl rfl ?_
  have h1 := h.obj (th2 := 0) (wi2 := wi) (an2 := an) (li2 := li)
  refine g_run hC 1 rfl ?_
  refine g_get hC rfl F_X3_52 h0 h1.g100 rfl ?_
  exact g_iret hC rfl rfl ⟨rfl, h1, FM.up (by decide) (by decide)⟩ (Nat.le_refl _) (Nat.le_refl _)
theorem c_X3_literal (hW : KF ad L) (hp : Nat → KE) (a p0 : Nat) (ha : a < 20) (hp0 : p0 < 512) : KM l yX3_literal cX3_literal 3 (some .int) (rmK 0 0 0) D dA ad sa L [.int (nI a), .int (nI p0)] hp (fun r hp' => r = some (.int (nI (litW a p0))) ∧ hp' = hp) := by
  refine KM.of rfl ok_X3_literal (len_of rfl) hW.1.1 hW.1.2 ?_
  intro p e s m args below meth c A hC hN
  rw [← litM_eq a ha p0 hp0]
  refine g_run hC 2 rfl ?_
  refine g_cut hp 18 [(0, .int (nI a)), (1, .int (nI p0))] [.int (nI (if a < 2 then 0 else p0 / 2 ^ (a / 2 - 1) % 2))] ?_ (fun t18 => ?_)
  · refine g_run hC 3 rfl ?_
    refine g_irem hC rfl (by decide) ?_
    refine g_top (nI (a % 2)) (pk_rem (by omega) (by decide) (by decide)) ?_
    refine g_ifne (tgt := 29) hC rfl (by decide) (fun h1 => ?_) (fun h1 => ?_)
    · have h2 : ¬ a % 2 = 0 := fun z => h1 (by rw [z]; rfl)
      refine g_run hC 3 rfl ?_
      refine g_top (nI (litM a p0)) ?_ (g_iret hC rfl rfl ⟨rfl, rfl⟩ (Nat.le_refl _) (Nat.le_refl _))
      unfold litM
      rw [if_neg h2]
      exact pk_sub (a := 1) (by split <;> omega)
    · have h2 : a % 2 = 0 := (nI_z (by omega)).mp h1
      refine g_run hC 2 rfl ?_
      refine g_iret hC rfl rfl ⟨?_, rfl⟩ (Nat.le_refl _) (Nat.le_refl _)
      unfold litM
      rw [if_pos h2]
  · refine g_icge (tgt := 9) hC rfl (by decide) (fun h1 => ?_) (fun h1 => ?_)
    · have h2 : 2 ≤ a := (nI_leI (a := 2) (b := a) (by decide) (by omega)).mp h1
      refine g_run hC 3 rfl ?_
      refine g_idiv hC rfl (by decide) ?_
      refine g_top (nI (a / 2)) (pk_div (by omega) (by decide) (by decide)) ?_
      refine g_run hC 5 rfl ?_
      refine g_top (nI (p0 / 2 ^ (a / 2 - 1) % 2)) ?_ ?_
      · show nI p0 >>> ((nI (a / 2) - nI 1) &&& 31) &&& nI 1 = _
        rw [pk_sub (by omega), shr_p (by omega) (by omega), nI_and, Nat.and_one_is_mod]
      · refine g_cv rfl ?_ (g_lvs t18 ⟨rfl, rfl, trivial⟩)
        rw [if_neg (by omega)]
    · have h2 : ¬ 2 ≤ a := fun z => h1 ((nI_leI (a := 2) (b := a) (by decide) (by omega)).mpr z)
      refine g_run hC 2 rfl ?_
      refine g_cv rfl ?_ (g_lvs t18 ⟨rfl, rfl, trivial⟩)
      rw [if_pos (by omega)]; rfl
theorem outc_mul : ∀ x : Nat, x < 2 → ∀ y : Nat, y < 2 → x * y = x &&& y ∧ (x + y) % 2 = x ^^^ y := by decide
theorem c_X3_made (hW : KF ad L) (h : MR hp th wi an li ki fi se tr cl si st nu wo fr) (w p0 : Nat) (t : GT) (hw : w < 10) (hG : mG ki fi se tr w t) (hk : t.1 < 4) (ha : t.2.1 < 20) (hb : t.2.2.1 < 20) (hc : t.2.2.2.1 < 20) (hp0 : p0 < 512) : KM l yX3_made cX3_made 6 (some .int) (rmK 1 0 0) D dA ad sa L [.ref 54, .int (nI w), .int (nI p0)] hp (fun r hp' => r = some (.int (nI (gOut t p0))) ∧ hp' = hp) := by
  refine KM.of rfl ok_X3_made (len_of rfl) hW.1.1 hW.1.2 ?_
  intro p e s m args below meth c A hC hN
  obtain ⟨kd, a, b, d, ts, tn⟩ := t
  obtain ⟨g1, g2, g3, g4⟩ := hG
  dsimp only at g1 g2 g3 g4 hk ha hb hc
  have h0 := hW.2 54 (by decide)
  refine g_run hC 1 rfl ?_
  refine g_get hC rfl F_X3_13 h0 h.g100 rfl ?_
  refine g_run hC 1 rfl ?_
  refine g_ild hC w rfl (hW.2 56 (by decide)) h.g102 rfl hw (by decide) ?_
  rw [g2]
  refine g_run hC 1 rfl ?_
  refine g_callS hC hN [.int (nI a), .int (nI p0)] (c_X3_literal hW hp a p0 ha hp0) rfl M_X3_59 rfl (len_of rfl) (by decide) (by decide) ?_
  rintro r hp1 ⟨rfl, rfl⟩
  refine g_run hC 2 rfl ?_
  refine g_get hC rfl F_X3_16 h0 h.g100 rfl ?_
  refine g_run hC 1 rfl ?_
  refine g_ild hC w rfl (hW.2 57 (by decide)) h.g103 rfl hw (by decide) ?_
  rw [g3]
  refine g_run hC 1 rfl ?_
  refine g_callS hC hN [.int (nI b), .int (nI p0)] (c_X3_literal hW hp1 b p0 hb hp0) rfl M_X3_59 rfl (len_of rfl) (by decide) (by decide) ?_
  rintro r hp2 ⟨rfl, rfl⟩
  refine g_run hC 2 rfl ?_
  refine g_get hC rfl F_X3_7 h0 h.g100 rfl ?_
  refine g_run hC 1 rfl ?_
  refine g_ild hC w rfl (hW.2 55 (by decide)) h.g101 rfl hw (by decide) ?_
  rw [g1]
  refine g_run hC 1 rfl ?_
  have hx := litW_lt (a := a) (o := p0)
  have hy := litW_lt (a := b) (o := p0)
  have hz := litW_lt (a := d) (o := p0)
  refine g_icge (tgt := 56) hC rfl (by decide) (fun h1 => ?_) (fun h1 => ?_)
  · have h2 : 2 ≤ kd := (nI_leI (a := 2) (b := kd) (by decide) (by omega)).mp h1
    refine g_run hC 1 rfl ?_
    refine g_get hC rfl F_X3_19 h0 h.g100 rfl ?_
    refine g_run hC 1 rfl ?_
    refine g_ild hC w rfl (hW.2 58 (by decide)) h.g104 rfl hw (by decide) ?_
    rw [g4 h2]
    refine g_run hC 1 rfl ?_
    refine g_callS hC hN [.int (nI d), .int (nI p0)] (c_X3_literal hW hp2 d p0 hc hp0) rfl M_X3_59 rfl (len_of rfl) (by decide) (by decide) ?_
    rintro r hp3 ⟨rfl, rfl⟩
    refine g_run hC 2 rfl ?_
    refine g_get hC rfl F_X3_7 h0 h.g100 rfl ?_
    refine g_run hC 1 rfl ?_
    refine g_ild hC w rfl (hW.2 55 (by decide)) h.g101 rfl hw (by decide) ?_
    rw [g1]
    refine g_run hC 1 rfl ?_
    rcases (show kd = 2 ∨ kd = 3 by omega) with rfl | rfl
    · refine g_icne (tgt := 93) hC rfl (by decide) (fun h3 => absurd rfl h3) (fun _ => ?_)
      refine g_run hC 2 rfl ?_
      refine g_icne (tgt := 88) hC rfl (by decide) (fun h3 => ?_) (fun h3 => ?_)
      · have h4 : ¬ litW a p0 = 1 := fun z => h3 (by rw [z]; rfl)
        refine g_run hC 2 rfl ?_
        refine g_iret hC rfl rfl ⟨?_, rfl⟩ (Nat.le_refl _) (Nat.le_refl _)
        simp [gOut, outc, h4]
      · have h4 : litW a p0 = 1 := (nI_eq (b := 1) (by omega) (by decide)).mp h3
        refine g_run hC 2 rfl ?_
        refine g_iret hC rfl rfl ⟨?_, rfl⟩ (Nat.le_refl _) (Nat.le_refl _)
        simp [gOut, outc, h4]
    · refine g_icne (tgt := 93) hC rfl (by decide) (fun _ => ?_) (fun h3 => absurd h3 (by decide))
      refine g_run hC 6 rfl ?_
      have e1 : nI (litW a p0) + nI (litW b p0) + nI (litW d p0) = nI (litW a p0 + litW b p0 + litW d p0) := by rw [nI_add, nI_add]
      refine g_icle (tgt := 108) hC rfl (by decide) (fun h3 => ?_) (fun h3 => ?_)
      · have h5 : nI (litW a p0 + litW b p0 + litW d p0) ≤ nI 1 := by rw [← e1]; exact h3
        have h4 := (nI_leI (b := 1) (by omega) (by decide)).mp h5
        refine g_run hC 1 rfl ?_
        refine g_iret hC rfl rfl ⟨?_, rfl⟩ (Nat.le_refl _) (Nat.le_refl _)
        have h6 : ¬ 2 ≤ litW a p0 + litW b p0 + litW d p0 := by omega
        simp [gOut, outc, h6]; rfl
      · have h5 : ¬ nI (litW a p0 + litW b p0 + litW d p0) ≤ nI 1 := by rw [← e1]; exact h3
        have h4 : ¬ litW a p0 + litW b p0 + litW d p0 ≤ 1 := fun z => h5 ((nI_leI (b := 1) (by omega) (by decide)).mpr z)
        refine g_run hC 2 rfl ?_
        refine g_iret hC rfl rfl ⟨?_, rfl⟩ (Nat.le_refl _) (Nat.le_refl _)
        have h6 : 2 ≤ litW a p0 + litW b p0 + litW d p0 := by omega
        simp [gOut, outc, h6]; rfl
  · have h2 : ¬ 2 ≤ kd := fun z => h1 ((nI_leI (a := 2) (b := kd) (by decide) (by omega)).mpr z)
    obtain ⟨m1, m2⟩ := outc_mul _ hx _ hy
    refine g_run hC 1 rfl ?_
    refine g_get hC rfl F_X3_7 h0 h.g100 rfl ?_
    refine g_run hC 1 rfl ?_
    refine g_ild hC w rfl (hW.2 55 (by decide)) h.g101 rfl hw (by decide) ?_
    rw [g1]
    rcases (show kd = 0 ∨ kd = 1 by omega) with rfl | rfl
    · refine g_ifne (tgt := 49) hC rfl (by decide) (fun h3 => absurd rfl h3) (fun _ => ?_)
      refine g_run hC 4 rfl ?_
      refine g_top (nI (gOut (0, a, b, d, ts, tn) p0)) ?_ (g_iret hC rfl rfl ⟨rfl, rfl⟩ (Nat.le_refl _) (Nat.le_refl _))
      show nI _ * nI _ = _
      rw [pk_mul, m1]; rfl
    · refine g_ifne (tgt := 49) hC rfl (by decide) (fun _ => ?_) (fun h3 => absurd h3 (by decide))
      refine g_run hC 4 rfl ?_
      refine g_irem hC rfl (by decide) ?_
      refine g_top (nI (gOut (1, a, b, d, ts, tn) p0)) ?_ (g_iret hC rfl rfl ⟨rfl, rfl⟩ (Nat.le_refl _) (Nat.le_refl _))
      show (nI _ + nI _) - (nI _ + nI _) / nI 2 * nI 2 = _
      rw [nI_add, pk_rem (by omega) (by decide) (by decide), m2]; rfl
end
end
section
def red (t : GT) (i p : Nat) : Nat := if gOut t p = 1 then p ||| 2 ^ i else p &&& (511 ^^^ 2 ^ i)
set_option maxRecDepth 100000 in
theorem clr_eq : ∀ i : Nat, i < 9 → ∀ p : Nat, p < 512 → nI p &&& (nI (2 ^ i) ^^^ cI (-1)) = nI (p &&& (511 ^^^ 2 ^ i)) := by decide +kernel
def aiN (inp o : Nat) : Nat → Bool
  | 0 => true
  | w + 1 => aiN inp o w && (!(decide (inp &&& 2 ^ w = 0)) || decide (o / 2 ^ w % 2 = 0))
theorem tb_mod (o w : Nat) : o / 2 ^ w % 2 = 0 ↔ o.testBit w = false := by
  rw [Nat.testBit_eq_decide_div_mod_eq]
  constructor
  · intro h; rw [h]; rfl
  · intro h
    have := of_decide_eq_false h
    omega
theorem and_tp (i n : Nat) : i &&& 2 ^ n = 0 ↔ i.testBit n = false := by
  constructor
  · intro h
    have h1 := congrArg (fun z => z.testBit n) h
    simp only [Nat.testBit_and, Nat.testBit_two_pow, Nat.zero_testBit, decide_true, Bool.and_true] at h1
    exact h1
  · intro h
    apply Nat.eq_of_testBit_eq
    intro j
    rw [Nat.testBit_and, Nat.testBit_two_pow, Nat.zero_testBit]
    by_cases hj : n = j
    · subst hj; rw [h]; rfl
    · rw [decide_eq_false hj, Bool.and_false]
theorem aiN_iff {inp o : Nat} : ∀ n, aiN inp o n = true ↔ ∀ w, w < n → inp.testBit w = false → o.testBit w = false
  | 0 => ⟨fun _ w h => absurd h (Nat.not_lt_zero w), fun _ => rfl⟩
  | n + 1 => by
    simp only [aiN, Bool.and_eq_true, Bool.or_eq_true, Bool.not_eq_true', decide_eq_false_iff_not, decide_eq_true_eq, aiN_iff n, and_tp, tb_mod]
    constructor
    · rintro ⟨h1, h2⟩ w hw hi
      by_cases h : w = n
      · subst h
        rcases h2 with h2 | h2
        · exact absurd hi h2
        · exact h2
      · exact h1 w (by omega) hi
    · intro h
      refine ⟨fun w hw => h w (by omega), ?_⟩
      by_cases h2 : inp.testBit n = false
      · exact Or.inr (h n (by omega) h2)
      · exact Or.inl h2
theorem ai_sub {inp o n : Nat} (ho : o < 2 ^ n) : aiN inp o n = true ↔ o &&& inp = o := by
  rw [aiN_iff]
  constructor
  · intro h
    apply Nat.eq_of_testBit_eq
    intro j
    rw [Nat.testBit_and]
    by_cases hj : j < n
    · cases hi : inp.testBit j with
      | false => rw [h j hj hi]; rfl
      | true => rw [Bool.and_true]
    · have : o.testBit j = false := Nat.testBit_lt_two_pow (Nat.lt_of_lt_of_le ho (Nat.pow_le_pow_right (by decide) (by omega)))
      rw [this]; rfl
  · intro h w _ hi
    rw [← h, Nat.testBit_and, hi, Bool.and_false]
theorem simN_eq {inp : Nat} {gt : Nat → GT} {o w : Nat} : simN inp gt o (w + 1) = if inp &&& 2 ^ w = 0 ∧ gOut (gt w) (simN inp gt o w) = 1 then simN inp gt o w ||| 2 ^ w else simN inp gt o w := rfl
theorem neg1_lt : cI (-1) < 0 := by decide
/-- the inputs that a call names are inputs -/
def inpOK (inp : Nat) (x : Int32) : Prop := ∃ o, o < 512 ∧ o &&& inp = o ∧ x = nI o
section
variable {l : Launch} {D : va_G} {dA ad sa : Nat → Nat} {L : List Nat} {hp : Nat → KE} {th wi an li inp : Nat} {ki fi se tr : Nat → Int32} {cl : Nat → Int64} {si st : Nat → Nat} {nu wo fr : Nat → Int64} {gt : Nat → GT}
theorem c_X3_redirected (hW : KF ad L) (h : MR hp th wi an li ki fi se tr cl si st nu wo fr) (w p0 : Nat) (t : GT) (hw : w < 9) (hG : mG ki fi se tr (w + 1) t) (hk : t.1 < 4) (ha : t.2.1 < 20) (hb : t.2.2.1 < 20) (hc : t.2.2.2.1 < 20) (hp0 : p0 < 512) : KM l yX3_redirected cX3_redirected 4 (some .int) (rmK 2 0 0) D dA ad sa L [.ref 54, .int (nI (w + 1)), .int (nI p0)] hp (fun r hp' => r = some (.int (nI (red t w p0))) ∧ hp' = hp) := by
  refine KM.of rfl ok_X3_redirected (len_of rfl) hW.1.1 hW.1.2 ?_
  intro p e s m args below meth c A hC hN
  refine g_run hC 9 rfl ?_
  refine g_lvs (lv' := [(1, .int (nI (w + 1))), (2, .int (nI p0)), (3, .int (nI (2 ^ w)))]) ?_ ⟨rfl, rfl, sI ?_, trivial⟩
  · refine g_callV hC hN [.int (nI (w + 1)), .int (nI p0)] (c_X3_made hW h (w + 1) p0 t (by omega) hG hk ha hb hc hp0) rfl M_X3_66 (hW.2 54 (by decide)) h.g100 rfl rfl (len_of rfl) (by decide) (by decide) ?_
    rintro r hp1 ⟨rfl, rfl⟩
    refine g_run hC 1 rfl ?_
    have hgo := gOut_lt (t := t) (p := p0)
    refine g_icne (tgt := 22) hC rfl (by decide) (fun h1 => ?_) (fun h1 => ?_)
    · have h2 : ¬ gOut t p0 = 1 := fun z => h1 (by rw [z]; rfl)
      refine g_run hC 5 rfl ?_
      refine g_top (nI (red t w p0)) ?_ (g_iret hC rfl rfl ⟨rfl, rfl⟩ (Nat.le_refl _) (Nat.le_refl _))
      unfold red
      rw [if_neg h2]
      exact clr_eq w hw p0 hp0
    · have h2 : gOut t p0 = 1 := (nI_eq (b := 1) (by omega) (by decide)).mp h1
      refine g_run hC 4 rfl ?_
      refine g_top (nI (red t w p0)) ?_ (g_iret hC rfl rfl ⟨rfl, rfl⟩ (Nat.le_refl _) (Nat.le_refl _))
      unfold red
      rw [if_pos h2]
      exact nI_or _ _
  · show cI 1 <<< ((nI (w + 1) - nI 1) &&& 31) = _
    rw [pk_sub (a := w + 1) (b := 1) (by omega), Nat.add_sub_cancel, shl_1 _ (by omega)]
theorem c_X3_areInputs (hW : KF ad L) (h : MR hp th wi an li ki fi se tr cl si st nu wo fr) (hn : wi ≤ 9) (hi : inp < 2 ^ wi) (hM : MGs wi inp gt ki fi se tr) (hgd : ∀ i, i < wi → inp &&& 2 ^ i = 0 → gGood i (gt i)) (x : Int32) : KM l yX3_areInputs cX3_areInputs 4 (some .boolean) (rmK 2 0 0) D dA ad sa L [.ref 54, .int x] hp (fun r hp' => (∃ b, r = some (.int (bI b)) ∧ (b = true ↔ inpOK inp x)) ∧ hp' = hp) := by
  refine KM.of rfl ok_X3_areInputs (len_of rfl) hW.1.1 hW.1.2 ?_
  intro p e s m args below meth c A hC hN
  have h0 := hW.2 54 (by decide)
  have h2 := p2_lt hn
  refine g_run hC 2 rfl ?_
  refine g_callV hC hN [.int x] (c_X3_isSet hW h hn x) rfl M_X3_63 h0 h.g100 rfl rfl (len_of rfl) (by decide) (by decide) ?_
  rintro r hp1 ⟨rfl, rfl⟩
  cases hb : setB wi x with
  | false =>
    refine g_ifne (tgt := 10) hC rfl (by decide) (fun h1 => absurd rfl h1) (fun _ => ?_)
    refine g_run hC 1 rfl ?_
    refine g_zret hC (nar_b false) rfl rfl ⟨⟨false, rfl, ⟨fun z => Bool.noConfusion z, ?_⟩⟩, rfl⟩ (Nat.le_refl _) (Nat.le_refl _)
    rintro ⟨o, ho, h3, rfl⟩
    have h4 : o < 2 ^ wi := Nat.lt_of_le_of_lt (by rw [← h3]; exact Nat.and_le_right) hi
    rw [(setB_iff hn).mpr ⟨o, h4, rfl⟩] at hb
    cases hb
  | true =>
    obtain ⟨o, ho, rfl⟩ := (setB_iff hn).mp hb
    refine g_ifne (tgt := 10) hC rfl (by decide) (fun _ => ?_) (fun h1 => absurd h1 (by decide))
    refine g_run hC 4 rfl ?_
    refine g_loop 0 wi (fun _ => hp1) (fun i => [(0, .ref 54), (1, .int (nI o)), (2, .int (bI (aiN inp o i))), (3, .int (nI (i + 1)))]) (Nat.zero_le _) rfl ⟨rfl, rfl, rfl, rfl, trivial⟩ ?_ ?_
    · intro i _ hin ih
      refine g_run hC 2 rfl ?_
      refine g_get hC rfl F_X3_45 h0 h.g100 rfl ?_
      refine g_icgt (tgt := 57) hC rfl (by decide) (fun h1 => ?_) (fun _ => ?_)
      · exact absurd ((nI_ltI (a := wi) (b := i + 1) (by omega) (by omega)).mp h1) (by omega)
      · refine g_run hC 1 rfl ?_
        refine g_cut hp1 50 [(0, .ref 54), (1, .int (nI o)), (3, .int (nI (i + 1)))] [.int (bI (aiN inp o (i + 1)))] ?_ (fun t50 => ?_)
        · refine g_run hC 3 rfl ?_
          exact g_lvs ih ⟨rfl, rfl, rfl, sI (nI_s (i + 1)), trivial⟩
        · simp only [aiN] at t50
          cases ha : aiN inp o i with
          | false =>
            rw [ha] at t50
            refine g_ifeq (tgt := 49) hC rfl (by decide) (fun _ => ?_) (fun h1 => absurd rfl h1)
            refine g_run hC 1 rfl ?_
            exact g_lvs t50 ⟨rfl, rfl, rfl, trivial⟩
          | true =>
            rw [ha, Bool.true_and] at t50
            refine g_ifeq (tgt := 49) hC rfl (by decide) (fun h1 => absurd h1 (by decide)) (fun _ => ?_)
            refine g_run hC 1 rfl ?_
            refine g_get hC rfl F_X3_7 h0 h.g100 rfl ?_
            refine g_run hC 1 rfl ?_
            refine g_ild hC (i + 1) rfl (hW.2 55 (by decide)) h.g101 rfl (by omega) (by decide) ?_
            by_cases hg : inp &&& 2 ^ i = 0
            · rw [decide_eq_true hg, Bool.not_true, Bool.false_or] at t50
              have hk := (hgd i hin hg).1
              rw [((hM i hin).1 hg).1]
              refine g_iflt (tgt := 45) hC rfl (by decide) (fun h1 => absurd h1 (nI_pos (by omega))) (fun _ => ?_)
              refine g_run hC 7 rfl ?_
              refine g_top (nI (o / 2 ^ i % 2)) ?_ ?_
              · show nI o >>> ((nI (i + 1) - nI 1) &&& 31) &&& nI 1 = _
                rw [pk_sub (a := i + 1) (b := 1) (by omega), Nat.add_sub_cancel, shr_p (by omega) (by omega), nI_and, Nat.and_one_is_mod]
              refine g_ifne (tgt := 49) hC rfl (by decide) (fun h1 => ?_) (fun h1 => ?_)
              · rw [decide_eq_false (fun z => h1 (by rw [z]; rfl))] at t50
                refine g_run hC 1 rfl ?_
                exact g_lvs t50 ⟨rfl, rfl, rfl, trivial⟩
              · rw [decide_eq_true ((nI_z (by omega)).mp h1)] at t50
                refine g_run hC 2 rfl ?_
                exact g_lvs t50 ⟨rfl, rfl, rfl, trivial⟩
            · rw [decide_eq_false hg, Bool.not_false, Bool.true_or] at t50
              rw [(hM i hin).2 hg]
              refine g_iflt (tgt := 45) hC rfl (by decide) (fun _ => ?_) (fun h1 => absurd neg1_lt h1)
              refine g_run hC 2 rfl ?_
              exact g_lvs t50 ⟨rfl, rfl, rfl, trivial⟩
    · refine g_run hC 2 rfl ?_
      refine g_get hC rfl F_X3_45 h0 h.g100 rfl ?_
      refine g_icgt (tgt := 57) hC rfl (by decide) (fun _ => ?_) (fun h1 => absurd (nI_lt (Nat.lt_succ_self wi) (by omega)) h1)
      refine g_run hC 1 rfl ?_
      refine g_zret hC (nar_b _) rfl rfl ⟨⟨_, rfl, ?_⟩, rfl⟩ (Nat.le_refl _) (Nat.le_refl _)
      rw [ai_sub ho]
      constructor
      · exact fun z => ⟨o, by omega, z, rfl⟩
      · rintro ⟨o2, h3, h4, h5⟩
        have h6 : o = o2 := (nI_eq (by omega) (by omega)).mp h5
        rw [h6]; exact h4
theorem c_X3_settled (hW : KF ad L) (h : MR hp th wi an li ki fi se tr cl si st nu wo fr) (hn : wi ≤ 9) (hM : MGs wi inp gt ki fi se tr) (hgd : ∀ i, i < wi → inp &&& 2 ^ i = 0 → gGood i (gt i)) (o : Nat) (ho : o < 512) : KM l yX3_settled cX3_settled 4 (some .int) (rmK 2 0 0) D dA ad sa L [.ref 54, .int (nI o)] hp (fun r hp' => r = some (.int (nI (simN inp gt o wi))) ∧ hp' = hp) := by
  refine KM.of rfl ok_X3_settled (len_of rfl) hW.1.1 hW.1.2 ?_
  intro p e s m args below meth c A hC hN
  have h0 := hW.2 54 (by decide)
  refine g_run hC 4 rfl ?_
  refine g_loop 0 wi (fun _ => hp) (fun i => [(0, .ref 54), (2, .int (nI (simN inp gt o i))), (3, .int (nI (i + 1)))]) (Nat.zero_le _) rfl ⟨rfl, rfl, rfl, trivial⟩ ?_ ?_
  · intro i _ hin ih
    have ho1 := simN_lt (inp := inp) (gt := gt) ho i (by omega)
    refine g_run hC 2 rfl ?_
    refine g_get hC rfl F_X3_45 h0 h.g100 rfl ?_
    refine g_icgt (tgt := 49) hC rfl (by decide) (fun h1 => ?_) (fun _ => ?_)
    · exact absurd ((nI_ltI (a := wi) (b := i + 1) (by omega) (by omega)).mp h1) (by omega)
    · refine g_run hC 1 rfl ?_
      refine g_get hC rfl F_X3_7 h0 h.g100 rfl ?_
      refine g_run hC 1 rfl ?_
      refine g_ild hC (i + 1) rfl (hW.2 55 (by decide)) h.g101 rfl (by omega) (by decide) ?_
      refine g_cut hp 42 [(0, .ref 54), (3, .int (nI (i + 1)))] [.int (nI (simN inp gt o (i + 1)))] ?_ (fun t42 => ?_)
      · refine g_run hC 3 rfl ?_
        exact g_lvs ih ⟨rfl, rfl, sI (nI_s (i + 1)), trivial⟩
      · rw [simN_eq] at t42
        by_cases hg : inp &&& 2 ^ i = 0
        · have hgg := hgd i hin hg
          obtain ⟨k1, k2, k3, k4, -, -⟩ := hgg
          rw [((hM i hin).1 hg).1]
          refine g_iflt (tgt := 41) hC rfl (by decide) (fun h1 => absurd h1 (nI_pos (by omega))) (fun _ => ?_)
          refine g_run hC 3 rfl ?_
          refine g_callV hC hN [.int (nI (i + 1)), .int (nI (simN inp gt o i))] (c_X3_made hW h (i + 1) _ (gt i) (by omega) ((hM i hin).1 hg) k1 (by omega) (by omega) (by omega) ho1) rfl M_X3_66 h0 h.g100 rfl rfl (len_of rfl) (by decide) (by decide) ?_
          rintro r hp1 ⟨rfl, rfl⟩
          refine g_run hC 1 rfl ?_
          have hgo := gOut_lt (t := gt i) (p := simN inp gt o i)
          refine g_icne (tgt := 41) hC rfl (by decide) (fun h1 => ?_) (fun h1 => ?_)
          · rw [if_neg (fun z => h1 (by rw [z.2]; rfl))] at t42
            refine g_run hC 1 rfl ?_
            exact g_lvs t42 ⟨rfl, rfl, trivial⟩
          · rw [if_pos ⟨hg, (nI_eq (b := 1) (by omega) (by decide)).mp h1⟩] at t42
            refine g_run hC 8 rfl ?_
            refine g_top (nI (simN inp gt o i ||| 2 ^ i)) ?_ (g_lvs t42 ⟨rfl, rfl, trivial⟩)
            show nI (simN inp gt o i) ||| cI 1 <<< ((nI (i + 1) - nI 1) &&& 31) = _
            rw [pk_sub (a := i + 1) (b := 1) (by omega), Nat.add_sub_cancel, shl_1 _ (by omega), nI_or]
        · rw [if_neg (fun z => hg z.1)] at t42
          rw [(hM i hin).2 hg]
          refine g_iflt (tgt := 41) hC rfl (by decide) (fun _ => ?_) (fun h1 => absurd neg1_lt h1)
          refine g_run hC 1 rfl ?_
          exact g_lvs t42 ⟨rfl, rfl, trivial⟩
  · refine g_run hC 2 rfl ?_
    refine g_get hC rfl F_X3_45 h0 h.g100 rfl ?_
    refine g_icgt (tgt := 49) hC rfl (by decide) (fun _ => ?_) (fun h1 => absurd (nI_lt (Nat.lt_succ_self wi) (by omega)) h1)
    refine g_run hC 1 rfl ?_
    exact g_iret hC rfl rfl ⟨rfl, rfl⟩ (Nat.le_refl _) (Nat.le_refl _)
theorem c_X3_claimed (hW : KF ad L) (h : MR hp th wi an li ki fi se tr cl si st nu wo fr) (hn : wi ≤ 9) (o : Nat) (ho : o < 512) : KM l yX3_claimed cX3_claimed 5 (some .long) (rmK 0 0 0) D dA ad sa L [.ref 54, .int (nI o)] hp (fun r hp' => r = some (.long (vsN cl o (2 ^ wi))) ∧ hp' = hp) := by
  refine KM.of rfl ok_X3_claimed (len_of rfl) hW.1.1 hW.1.2 ?_
  intro p e s m args below meth c A hC hN
  have h0 := hW.2 54 (by decide)
  have h2 := p2_lt hn
  refine g_run hC 4 rfl ?_
  refine g_loop 0 (2 ^ wi) (fun _ => hp) (fun i => [(0, .ref 54), (1, .int (nI o)), (2, .long (vsN cl o i)), (4, .int (nI i))]) (Nat.zero_le _) rfl ⟨rfl, rfl, rfl, rfl, trivial⟩ ?_ ?_
  · intro i _ hin ih
    refine g_run hC 3 rfl ?_
    refine g_get hC rfl F_X3_45 h0 h.g100 rfl ?_
    refine g_run hC 1 rfl ?_
    refine g_top (nI (2 ^ wi)) (shl_1 wi (by omega)) ?_
    refine g_icge (tgt := 45) hC rfl (by decide) (fun h1 => ?_) (fun _ => ?_)
    · exact absurd ((nI_leI (a := 2 ^ wi) (b := i) (by omega) (by omega)).mp h1) (by omega)
    · refine g_run hC 4 rfl ?_
      refine g_cut hp 38 [(0, .ref 54), (1, .int (nI o)), (4, .int (nI i))] [.long (vsN cl o (i + 1))] ?_ (fun t38 => ?_)
      · refine g_run hC 3 rfl ?_
        exact g_lvs ih ⟨rfl, rfl, rfl, sI (nI_s i), trivial⟩
      · simp only [vsN] at t38
        have hE : nI i &&& nI o = nI i ↔ i &&& o = i := by rw [nI_and]; exact nI_eq (Nat.lt_of_le_of_lt Nat.and_le_left (by omega)) (by omega)
        refine g_icne (tgt := 37) hC rfl (by decide) (fun h1 => ?_) (fun h1 => ?_)
        · rw [if_neg (fun z => h1 (hE.mpr z))] at t38
          refine g_run hC 1 rfl ?_
          exact g_lvs t38 ⟨rfl, rfl, rfl, trivial⟩
        · rw [if_pos (hE.mp h1)] at t38
          refine g_run hC 2 rfl ?_
          refine g_get hC rfl F_X3_22 h0 h.g100 rfl ?_
          refine g_run hC 1 rfl ?_
          refine g_lld hC i rfl (hW.2 59 (by decide)) h.g105 rfl (by omega) (by decide) ?_
          refine g_run hC 2 rfl ?_
          exact g_lvs t38 ⟨rfl, rfl, rfl, trivial⟩
  · refine g_run hC 3 rfl ?_
    refine g_get hC rfl F_X3_45 h0 h.g100 rfl ?_
    refine g_run hC 1 rfl ?_
    refine g_top (nI (2 ^ wi)) (shl_1 wi (by omega)) ?_
    refine g_icge (tgt := 45) hC rfl (by decide) (fun _ => ?_) (fun h1 => absurd (Int32.le_refl _) h1)
    refine g_run hC 1 rfl ?_
    exact g_lret hC rfl rfl ⟨rfl, rfl⟩ (Nat.le_refl _) (Nat.le_refl _)
end
end
section
section
variable {l : Launch} {D : va_G} {dA ad sa : Nat → Nat} {L : List Nat} {hp : Nat → KE} {th wi an li inp : Nat} {ki fi se tr : Nat → Int32} {cl : Nat → Int64} {si st : Nat → Nat} {nu wo fr : Nat → Int64} {gt : Nat → GT}
theorem c_X3_simulate (hW : KF ad L) (h : MR hp th wi an li ki fi se tr cl si st nu wo fr) (hn : wi ≤ 9) (hi : inp < 2 ^ wi) (hM : MGs wi inp gt ki fi se tr) (hgd : ∀ i, i < wi → inp &&& 2 ^ i = 0 → gGood i (gt i)) (x : Int32) : KM l yX3_simulate cX3_simulate 2 (some .int) (rmK 3 0 0) D dA ad sa L [.ref 54, .int x] hp
    (fun r hp' => ((∃ o, o < 512 ∧ o &&& inp = o ∧ x = nI o ∧ r = some (.int (nI (simN inp gt o wi))) ∧ MR hp' 0 wi an li ki fi se tr cl si st nu wo fr) ∨ (¬ inpOK inp x ∧ (∃ v, r = some (.int v)) ∧ MR hp' 1 wi an li ki fi se tr cl si st nu wo fr)) ∧ FM hp hp') := by
  refine KM.of rfl ok_X3_simulate (len_of rfl) hW.1.1 hW.1.2 ?_
  intro p e s m args below meth c A hC hN
  have h0 := hW.2 54 (by decide)
  refine g_run hC 3 rfl ?_
  refine g_callV hC hN [.int x] (c_X3_areInputs hW h hn hi hM hgd x) rfl M_X3_69 h0 h.g100 rfl rfl (len_of rfl) (by decide) (by decide) ?_
  rintro r hp1 ⟨⟨b, rfl, hb⟩, rfl⟩
  cases b with
  | true =>
    obtain ⟨o, ho, h1, rfl⟩ := hb.mp rfl
    refine g_ifeq (tgt := 13) hC rfl (by decide) (fun h2 => absurd h2 (by decide)) (fun _ => ?_)
    refine g_run hC 2 rfl ?_
    refine g_putI hC rfl F_X3_41 h0 h.g100 (len_of rfl) rfl rfl ?_
    have h2 := h.obj (th2 := 0) (wi2 := wi) (an2 := an) (li2 := li)
    refine g_run hC 1 rfl ?_
    refine g_get hC rfl F_X3_41 h0 h2.g100 rfl ?_
    refine g_ifle (tgt := 28) hC rfl (by decide) (fun _ => ?_) (fun h3 => absurd (by decide) h3)
    refine g_run hC 2 rfl ?_
    refine g_callV hC hN [.int (nI o)] (c_X3_settled hW h2 hn hM hgd o ho) rfl M_X3_72 h0 h2.g100 rfl rfl (len_of rfl) (by decide) (by decide) ?_
    rintro r hp2 ⟨rfl, rfl⟩
    exact g_iret hC rfl rfl ⟨Or.inl ⟨o, ho, h1, rfl, rfl, h2⟩, FM.up (by decide) (by decide)⟩ (Nat.le_refl _) (Nat.le_refl _)
  | false =>
    refine g_ifeq (tgt := 13) hC rfl (by decide) (fun _ => ?_) (fun h2 => absurd rfl h2)
    refine g_run hC 1 rfl ?_
    refine g_putI hC rfl F_X3_41 h0 h.g100 (len_of rfl) rfl rfl ?_
    have h2 := h.obj (th2 := 1) (wi2 := wi) (an2 := an) (li2 := li)
    refine g_run hC 1 rfl ?_
    refine g_get hC rfl F_X3_41 h0 h2.g100 rfl ?_
    refine g_ifle (tgt := 28) hC rfl (by decide) (fun h3 => absurd h3 (by decide)) (fun _ => ?_)
    refine g_run hC 2 rfl ?_
    exact g_iret hC rfl rfl ⟨Or.inr ⟨fun z => Bool.noConfusion (hb.mpr z), ⟨_, rfl⟩, h2⟩, FM.up (by decide) (by decide)⟩ (Nat.le_refl _) (Nat.le_refl _)
theorem c_X3_evaluate (hW : KF ad L) (h : MR hp th wi an li ki fi se tr cl si st nu wo fr) (hn : wi ≤ 9) (hi : inp < 2 ^ wi) (hM : MGs wi inp gt ki fi se tr) (hgd : ∀ i, i < wi → inp &&& 2 ^ i = 0 → gGood i (gt i)) (x : Int32) : KM l yX3_evaluate cX3_evaluate 2 (some .long) (rmK 3 0 0) D dA ad sa L [.ref 54, .int x] hp
    (fun r hp' => ((∃ o, o < 512 ∧ o &&& inp = o ∧ x = nI o ∧ r = some (.long (vsN cl (simN inp gt o wi) (2 ^ wi))) ∧ MR hp' 0 wi an li ki fi se tr cl si st nu wo fr) ∨ (¬ inpOK inp x ∧ (∃ v, r = some (.long v)) ∧ MR hp' 1 wi an li ki fi se tr cl si st nu wo fr)) ∧ FM hp hp') := by
  refine KM.of rfl ok_X3_evaluate (len_of rfl) hW.1.1 hW.1.2 ?_
  intro p e s m args below meth c A hC hN
  have h0 := hW.2 54 (by decide)
  refine g_run hC 3 rfl ?_
  refine g_callV hC hN [.int x] (c_X3_areInputs hW h hn hi hM hgd x) rfl M_X3_69 h0 h.g100 rfl rfl (len_of rfl) (by decide) (by decide) ?_
  rintro r hp1 ⟨⟨b, rfl, hb⟩, rfl⟩
  cases b with
  | true =>
    obtain ⟨o, ho, h1, rfl⟩ := hb.mp rfl
    refine g_ifeq (tgt := 13) hC rfl (by decide) (fun h2 => absurd h2 (by decide)) (fun _ => ?_)
    refine g_run hC 2 rfl ?_
    refine g_putI hC rfl F_X3_41 h0 h.g100 (len_of rfl) rfl rfl ?_
    have h2 := h.obj (th2 := 0) (wi2 := wi) (an2 := an) (li2 := li)
    refine g_run hC 1 rfl ?_
    refine g_get hC rfl F_X3_41 h0 h2.g100 rfl ?_
    refine g_ifle (tgt := 28) hC rfl (by decide) (fun _ => ?_) (fun h3 => absurd (by decide) h3)
    refine g_run hC 3 rfl ?_
    refine g_callV hC hN [.int (nI o)] (c_X3_settled hW h2 hn hM hgd o ho) rfl M_X3_72 h0 h2.g100 rfl rfl (len_of rfl) (by decide) (by decide) ?_
    rintro r hp2 ⟨rfl, rfl⟩
    refine g_callV hC hN [.int (nI (simN inp gt o wi))] (c_X3_claimed hW h2 hn _ (simN_lt ho wi hn)) rfl M_X3_76 h0 h2.g100 rfl rfl (len_of rfl) (by decide) (by decide) ?_
    rintro r hp3 ⟨rfl, rfl⟩
    exact g_lret hC rfl rfl ⟨Or.inl ⟨o, ho, h1, rfl, rfl, h2⟩, FM.up (by decide) (by decide)⟩ (Nat.le_refl _) (Nat.le_refl _)
  | false =>
    refine g_ifeq (tgt := 13) hC rfl (by decide) (fun _ => ?_) (fun h2 => absurd rfl h2)
    refine g_run hC 1 rfl ?_
    refine g_putI hC rfl F_X3_41 h0 h.g100 (len_of rfl) rfl rfl ?_
    have h2 := h.obj (th2 := 1) (wi2 := wi) (an2 := an) (li2 := li)
    refine g_run hC 1 rfl ?_
    refine g_get hC rfl F_X3_41 h0 h2.g100 rfl ?_
    refine g_ifle (tgt := 28) hC rfl (by decide) (fun h3 => absurd h3 (by decide)) (fun _ => ?_)
    refine g_run hC 2 rfl ?_
    exact g_lret hC rfl rfl ⟨Or.inr ⟨fun z => Bool.noConfusion (hb.mpr z), ⟨_, rfl⟩, h2⟩, FM.up (by decide) (by decide)⟩ (Nat.le_refl _) (Nat.le_refl _)
theorem c_X3_input (hW : KF ad L) (h : MR hp th wi an li ki fi se tr cl si st nu wo fr) (hn : wi ≤ 9) : KM l yX3_input cX3_input 1 (some .int) (rmK 0 0 0) D dA ad sa L [.ref 54] hp
    (fun r hp' => ((wi = 9 ∧ (∃ v, r = some (.int v)) ∧ MR hp' 1 wi an li ki fi se tr cl si st nu wo fr) ∨ (wi < 9 ∧ r = some (.int (nI (wi + 1))) ∧ MR hp' 0 (wi + 1) an 0 (va_up ki (wi + 1) (cI (-1))) fi se tr cl si st nu wo fr)) ∧ FM hp hp') := by
  refine KM.of rfl ok_X3_input (len_of rfl) hW.1.1 hW.1.2 ?_
  intro p e s m args below meth c A hC hN
  have h0 := hW.2 54 (by decide)
  refine g_run hC 2 rfl ?_
  refine g_get hC rfl F_X3_45 h0 h.g100 rfl ?_
  refine g_run hC 1 rfl ?_
  refine g_icne (tgt := 14) hC rfl (by decide) (fun h1 => ?_) (fun h1 => ?_)
  · have h9 : ¬ wi = 9 := fun z => h1 (by rw [z]; rfl)
    refine g_run hC 1 rfl ?_
    refine g_putI hC rfl F_X3_41 h0 h.g100 (len_of rfl) rfl rfl ?_
    have h2 := h.obj (th2 := 0) (wi2 := wi) (an2 := an) (li2 := li)
    refine g_run hC 1 rfl ?_
    refine g_get hC rfl F_X3_41 h0 h2.g100 rfl ?_
    refine g_ifle (tgt := 27) hC rfl (by decide) (fun _ => ?_) (fun h3 => absurd (by decide) h3)
    refine g_run hC 2 rfl ?_
    refine g_get hC rfl F_X3_45 h0 h2.g100 rfl ?_
    refine g_run hC 2 rfl ?_
    refine g_top (nI (wi + 1)) (nI_s wi) ?_
    refine g_putI hC rfl F_X3_45 h0 h2.g100 (len_of rfl) rfl rfl ?_
    have h3 := h2.obj (th2 := 0) (wi2 := wi + 1) (an2 := an) (li2 := li)
    refine g_run hC 1 rfl ?_
    refine g_get hC rfl F_X3_7 h0 h3.g100 rfl ?_
    refine g_run hC 1 rfl ?_
    refine g_get hC rfl F_X3_45 h0 h3.g100 rfl ?_
    refine g_run hC 1 rfl ?_
    refine g_ist hC (wi + 1) rfl (hW.2 55 (by decide)) h3.g101 rfl (by omega) (by decide) ?_
    have h4 := h3.s_ki (x9 := va_up ki (wi + 1) (cI (-1)))
    refine g_run hC 2 rfl ?_
    refine g_putI hC rfl F_X3_52 h0 h4.g100 (len_of rfl) rfl rfl ?_
    have h5 := h4.obj (th2 := 0) (wi2 := wi + 1) (an2 := an) (li2 := 0)
    refine g_run hC 1 rfl ?_
    refine g_get hC rfl F_X3_45 h0 h5.g100 rfl ?_
    exact g_iret hC rfl rfl ⟨Or.inr ⟨by omega, rfl, h5⟩, (((FM.up (by decide) (by decide)).tr (FM.up (by decide) (by decide))).tr (FM.up (by decide) (by decide))).tr (FM.up (by decide) (by decide))⟩ (Nat.le_refl _) (Nat.le_refl _)
  · have h9 : wi = 9 := (nI_eq (b := 9) (by omega) (by decide)).mp h1
    refine g_run hC 2 rfl ?_
    refine g_putI hC rfl F_X3_41 h0 h.g100 (len_of rfl) rfl rfl ?_
    have h2 := h.obj (th2 := 1) (wi2 := wi) (an2 := an) (li2 := li)
    refine g_run hC 1 rfl ?_
    refine g_get hC rfl F_X3_41 h0 h2.g100 rfl ?_
    refine g_ifle (tgt := 27) hC rfl (by decide) (fun h3 => absurd h3 (by decide)) (fun _ => ?_)
    refine g_run hC 1 rfl ?_
    exact g_iret hC rfl rfl ⟨Or.inl ⟨h9, ⟨_, rfl⟩, h2⟩, FM.up (by decide) (by decide)⟩ (Nat.le_refl _) (Nat.le_refl _)
theorem c_X3_gate (hW : KF ad L) (h : MR hp th wi an li ki fi se tr cl si st nu wo fr) (hn : wi ≤ 9) (x a b d : Int32) : KM l yX3_gate cX3_gate 6 (some .int) (rmK 2 0 0) D dA ad sa L [.ref 54, .int x, .int a, .int b, .int d] hp
    (fun r hp' => ((gateB wi x a b d = false ∧ (∃ v, r = some (.int v)) ∧ MR hp' 1 wi an li ki fi se tr cl si st nu wo fr) ∨ (gateB wi x a b d = true ∧ wi = 9 ∧ (∃ v, r = some (.int v)) ∧ MR hp' 2 wi an li ki fi se tr cl si st nu wo fr) ∨ (gateB wi x a b d = true ∧ wi < 9 ∧ r = some (.int (nI (wi + 1))) ∧ MR hp' 0 (wi + 1) an 0 (va_up ki (wi + 1) x) (va_up fi (wi + 1) a) (va_up se (wi + 1) b) (va_up tr (wi + 1) d) cl si st nu wo fr)) ∧ FM hp hp') := by
  refine KM.of rfl ok_X3_gate (len_of rfl) hW.1.1 hW.1.2 ?_
  intro p e s m args below meth c A hC hN
  have h0 := hW.2 54 (by decide)
  refine g_run hC 3 rfl ?_
  refine g_callS hC hN [.int x, .int (nI 0), .int (nI 3)] (c_X3_within hW hp x _ _) rfl M_X3_48 rfl (len_of rfl) (by decide) (by decide) ?_
  rintro r hp1 ⟨rfl, rfl⟩
  refine g_cutA (ι := Bool) (fun b0 => gateB wi x a b d = b0) (fun _ => hp1) 44 (fun _ => [(0, .ref 54), (1, .int x), (2, .int a), (3, .int b), (4, .int d)]) (fun b0 => [.int (bI b0)]) ?_ (fun t44 => ?_)
  · intro b0 hb0
    rw [hb0]
    refine g_run hC 3 rfl ?_
    cases b0 with
    | false =>
      refine g_ifne (tgt := 56) hC rfl (by decide) (fun h1 => absurd rfl h1) (fun _ => ?_)
      refine g_run hC 2 rfl ?_
      refine g_putI hC rfl F_X3_41 h0 h.g100 (len_of rfl) rfl rfl ?_
      have h2 := h.obj (th2 := 1) (wi2 := wi) (an2 := an) (li2 := li)
      refine g_run hC 1 rfl ?_
      refine g_get hC rfl F_X3_41 h0 h2.g100 rfl ?_
      refine g_ifle (tgt := 82) hC rfl (by decide) (fun h3 => absurd h3 (by decide)) (fun _ => ?_)
      refine g_run hC 1 rfl ?_
      exact g_iret hC rfl rfl ⟨Or.inl ⟨rfl, ⟨_, rfl⟩, h2⟩, FM.up (by decide) (by decide)⟩ (Nat.le_refl _) (Nat.le_refl _)
    | true =>
      refine g_ifne (tgt := 56) hC rfl (by decide) (fun _ => ?_) (fun h1 => absurd h1 (by decide))
      refine g_run hC 1 rfl ?_
      refine g_get hC rfl F_X3_45 h0 h.g100 rfl ?_
      refine g_run hC 1 rfl ?_
      refine g_icne (tgt := 69) hC rfl (by decide) (fun h1 => ?_) (fun h1 => ?_)
      · have h9 : ¬ wi = 9 := fun z => h1 (by rw [z]; rfl)
        refine g_run hC 1 rfl ?_
        refine g_putI hC rfl F_X3_41 h0 h.g100 (len_of rfl) rfl rfl ?_
        have h2 := h.obj (th2 := 0) (wi2 := wi) (an2 := an) (li2 := li)
        refine g_run hC 1 rfl ?_
        refine g_get hC rfl F_X3_41 h0 h2.g100 rfl ?_
        refine g_ifle (tgt := 82) hC rfl (by decide) (fun _ => ?_) (fun h3 => absurd (by decide) h3)
        refine g_run hC 2 rfl ?_
        refine g_get hC rfl F_X3_45 h0 h2.g100 rfl ?_
        refine g_run hC 2 rfl ?_
        refine g_top (nI (wi + 1)) (nI_s wi) ?_
        refine g_putI hC rfl F_X3_45 h0 h2.g100 (len_of rfl) rfl rfl ?_
        have h3 := h2.obj (th2 := 0) (wi2 := wi + 1) (an2 := an) (li2 := li)
        refine g_run hC 1 rfl ?_
        refine g_get hC rfl F_X3_7 h0 h3.g100 rfl ?_
        refine g_run hC 1 rfl ?_
        refine g_get hC rfl F_X3_45 h0 h3.g100 rfl ?_
        refine g_run hC 1 rfl ?_
        refine g_ist hC (wi + 1) rfl (hW.2 55 (by decide)) h3.g101 rfl (by omega) (by decide) ?_
        have h4 := h3.s_ki (x9 := va_up ki (wi + 1) x)
        refine g_run hC 1 rfl ?_
        refine g_get hC rfl F_X3_13 h0 h4.g100 rfl ?_
        refine g_run hC 1 rfl ?_
        refine g_get hC rfl F_X3_45 h0 h4.g100 rfl ?_
        refine g_run hC 1 rfl ?_
        refine g_ist hC (wi + 1) rfl (hW.2 56 (by decide)) h4.g102 rfl (by omega) (by decide) ?_
        have h5 := h4.s_fi (x9 := va_up fi (wi + 1) a)
        refine g_run hC 1 rfl ?_
        refine g_get hC rfl F_X3_16 h0 h5.g100 rfl ?_
        refine g_run hC 1 rfl ?_
        refine g_get hC rfl F_X3_45 h0 h5.g100 rfl ?_
        refine g_run hC 1 rfl ?_
        refine g_ist hC (wi + 1) rfl (hW.2 57 (by decide)) h5.g103 rfl (by omega) (by decide) ?_
        have h6 := h5.s_se (x9 := va_up se (wi + 1) b)
        refine g_run hC 1 rfl ?_
        refine g_get hC rfl F_X3_19 h0 h6.g100 rfl ?_
        refine g_run hC 1 rfl ?_
        refine g_get hC rfl F_X3_45 h0 h6.g100 rfl ?_
        refine g_run hC 1 rfl ?_
        refine g_ist hC (wi + 1) rfl (hW.2 58 (by decide)) h6.g104 rfl (by omega) (by decide) ?_
        have h7 := h6.s_tr (x9 := va_up tr (wi + 1) d)
        refine g_run hC 2 rfl ?_
        refine g_putI hC rfl F_X3_52 h0 h7.g100 (len_of rfl) rfl rfl ?_
        have h8 := h7.obj (th2 := 0) (wi2 := wi + 1) (an2 := an) (li2 := 0)
        refine g_run hC 1 rfl ?_
        refine g_get hC rfl F_X3_45 h0 h8.g100 rfl ?_
        refine g_iret hC rfl rfl ⟨Or.inr (Or.inr ⟨rfl, by omega, rfl, h8⟩), ?_⟩ (Nat.le_refl _) (Nat.le_refl _)
        exact ((((((FM.up (by decide) (by decide)).tr (FM.up (by decide) (by decide))).tr (FM.up (by decide) (by decide))).tr (FM.up (by decide) (by decide))).tr (FM.up (by decide) (by decide))).tr (FM.up (by decide) (by decide))).tr (FM.up (by decide) (by decide))
      · have h9 : wi = 9 := (nI_eq (b := 9) (by omega) (by decide)).mp h1
        refine g_run hC 2 rfl ?_
        refine g_putI hC rfl F_X3_41 h0 h.g100 (len_of rfl) rfl rfl ?_
        have h2 := h.obj (th2 := 2) (wi2 := wi) (an2 := an) (li2 := li)
        refine g_run hC 1 rfl ?_
        refine g_get hC rfl F_X3_41 h0 h2.g100 rfl ?_
        refine g_ifle (tgt := 82) hC rfl (by decide) (fun h3 => absurd h3 (by decide)) (fun _ => ?_)
        refine g_run hC 1 rfl ?_
        exact g_iret hC rfl rfl ⟨Or.inr (Or.inl ⟨rfl, h9, ⟨_, rfl⟩, h2⟩), FM.up (by decide) (by decide)⟩ (Nat.le_refl _) (Nat.le_refl _)
  · cases hK : (decide (nI 0 ≤ x) && decide (x ≤ nI 3)) with
    | false =>
      have hK2 : (decide (0 ≤ x) && decide (x ≤ nI 3)) = false := hK
      refine g_ifeq (tgt := 43) hC rfl (by decide) (fun _ => ?_) (fun h1 => absurd rfl h1)
      refine g_run hC 1 rfl ?_
      exact g_lvs (t44 false (by unfold gateB; rw [hK2]; rfl)) ⟨rfl, rfl, rfl, rfl, rfl, trivial⟩
    | true =>
      have hK2 : (decide (0 ≤ x) && decide (x ≤ nI 3)) = true := hK
      refine g_ifeq (tgt := 43) hC rfl (by decide) (fun h1 => absurd h1 (by decide)) (fun _ => ?_)
      refine g_run hC 2 rfl ?_
      refine g_callV hC hN [.int a] (c_X3_isLiteral hW h a) rfl M_X3_55 h0 h.g100 rfl rfl (len_of rfl) (by decide) (by decide) ?_
      rintro r hp2 ⟨rfl, rfl⟩
      cases hla : litB wi a with
      | false =>
        refine g_ifeq (tgt := 43) hC rfl (by decide) (fun _ => ?_) (fun h1 => absurd rfl h1)
        refine g_run hC 1 rfl ?_
        exact g_lvs (t44 false (by unfold gateB; rw [hK2, hla]; rfl)) ⟨rfl, rfl, rfl, rfl, rfl, trivial⟩
      | true =>
        refine g_ifeq (tgt := 43) hC rfl (by decide) (fun h1 => absurd h1 (by decide)) (fun _ => ?_)
        refine g_run hC 2 rfl ?_
        refine g_callV hC hN [.int b] (c_X3_isLiteral hW h b) rfl M_X3_55 h0 h.g100 rfl rfl (len_of rfl) (by decide) (by decide) ?_
        rintro r hp3 ⟨rfl, rfl⟩
        cases hlb : litB wi b with
        | false =>
          refine g_ifeq (tgt := 43) hC rfl (by decide) (fun _ => ?_) (fun h1 => absurd rfl h1)
          refine g_run hC 1 rfl ?_
          exact g_lvs (t44 false (by unfold gateB; rw [hK2, hla, hlb]; rfl)) ⟨rfl, rfl, rfl, rfl, rfl, trivial⟩
        | true =>
          refine g_ifeq (tgt := 43) hC rfl (by decide) (fun h1 => absurd h1 (by decide)) (fun _ => ?_)
          refine g_run hC 2 rfl ?_
          refine g_iclt (tgt := 39) hC rfl (by decide) (fun h1 => ?_) (fun h1 => ?_)
          · have h5 := decide_eq_true (p := x < nI 2) h1
            refine g_run hC 2 rfl ?_
            exact g_lvs (t44 true (by unfold gateB; rw [hK2, hla, hlb, h5]; rfl)) ⟨rfl, rfl, rfl, rfl, rfl, trivial⟩
          · have h5 := decide_eq_false (p := x < nI 2) h1
            refine g_run hC 2 rfl ?_
            refine g_callV hC hN [.int d] (c_X3_isLiteral hW h d) rfl M_X3_55 h0 h.g100 rfl rfl (len_of rfl) (by decide) (by decide) ?_
            rintro r hp4 ⟨rfl, rfl⟩
            cases hld : litB wi d with
            | false =>
              refine g_ifeq (tgt := 43) hC rfl (by decide) (fun _ => ?_) (fun h1 => absurd rfl h1)
              refine g_run hC 1 rfl ?_
              exact g_lvs (t44 false (by unfold gateB; rw [hK2, hla, hlb, h5, hld]; rfl)) ⟨rfl, rfl, rfl, rfl, rfl, trivial⟩
            | true =>
              refine g_ifeq (tgt := 43) hC rfl (by decide) (fun h1 => absurd h1 (by decide)) (fun _ => ?_)
              refine g_run hC 2 rfl ?_
              exact g_lvs (t44 true (by unfold gateB; rw [hK2, hla, hlb, h5, hld]; rfl)) ⟨rfl, rfl, rfl, rfl, rfl, trivial⟩
theorem c_X3_add (hW : KF ad L) (h : MR hp th wi an li ki fi se tr cl si st nu wo fr) (hn : wi ≤ 9) (ha : an ≤ 40) (x y : Int32) : KM l yX3_add cX3_add 3 (some .int) (rmK 2 0 0) D dA ad sa L [.ref 54, .int x, .int y] hp
    (fun r hp' => ((setB wi x = false ∧ (∃ v, r = some (.int v)) ∧ MR hp' 1 wi an li ki fi se tr cl si st nu wo fr) ∨ (setB wi x = true ∧ an = 40 ∧ (∃ v, r = some (.int v)) ∧ MR hp' 2 wi an li ki fi se tr cl si st nu wo fr) ∨ (∃ k, k < 2 ^ wi ∧ x = nI k ∧ an < 40 ∧ r = some (.int (nI (an + 1))) ∧ MR hp' 0 wi (an + 1) 0 ki fi se tr (inc cl k y.toInt64) si st nu wo fr)) ∧ FM hp hp') := by
  refine KM.of rfl ok_X3_add (len_of rfl) hW.1.1 hW.1.2 ?_
  intro p e s m args below meth c A hC hN
  have h0 := hW.2 54 (by decide)
  have hp2 := p2_lt hn
  refine g_run hC 3 rfl ?_
  refine g_callV hC hN [.int x] (c_X3_isSet hW h hn x) rfl M_X3_63 h0 h.g100 rfl rfl (len_of rfl) (by decide) (by decide) ?_
  rintro r hp1 ⟨rfl, rfl⟩
  cases hb : setB wi x with
  | false =>
    refine g_ifne (tgt := 13) hC rfl (by decide) (fun h1 => absurd rfl h1) (fun _ => ?_)
    refine g_run hC 2 rfl ?_
    refine g_putI hC rfl F_X3_41 h0 h.g100 (len_of rfl) rfl rfl ?_
    have h2 := h.obj (th2 := 1) (wi2 := wi) (an2 := an) (li2 := li)
    refine g_run hC 1 rfl ?_
    refine g_get hC rfl F_X3_41 h0 h2.g100 rfl ?_
    refine g_ifle (tgt := 39) hC rfl (by decide) (fun h3 => absurd h3 (by decide)) (fun _ => ?_)
    refine g_run hC 1 rfl ?_
    exact g_iret hC rfl rfl ⟨Or.inl ⟨rfl, ⟨_, rfl⟩, h2⟩, FM.up (by decide) (by decide)⟩ (Nat.le_refl _) (Nat.le_refl _)
  | true =>
    obtain ⟨k, hk, rfl⟩ := (setB_iff hn).mp hb
    refine g_ifne (tgt := 13) hC rfl (by decide) (fun _ => ?_) (fun h1 => absurd h1 (by decide))
    refine g_run hC 1 rfl ?_
    refine g_get hC rfl F_X3_80 h0 h.g100 rfl ?_
    refine g_run hC 1 rfl ?_
    refine g_icne (tgt := 26) hC rfl (by decide) (fun h1 => ?_) (fun h1 => ?_)
    · have h9 : ¬ an = 40 := fun z => h1 (by rw [z]; rfl)
      refine g_run hC 1 rfl ?_
      refine g_putI hC rfl F_X3_41 h0 h.g100 (len_of rfl) rfl rfl ?_
      have h2 := h.obj (th2 := 0) (wi2 := wi) (an2 := an) (li2 := li)
      refine g_run hC 1 rfl ?_
      refine g_get hC rfl F_X3_41 h0 h2.g100 rfl ?_
      refine g_ifle (tgt := 39) hC rfl (by decide) (fun _ => ?_) (fun h3 => absurd (by decide) h3)
      refine g_run hC 1 rfl ?_
      refine g_get hC rfl F_X3_22 h0 h2.g100 rfl ?_
      refine g_run hC 2 rfl ?_
      refine g_get hC rfl F_X3_22 h0 h2.g100 rfl ?_
      refine g_run hC 1 rfl ?_
      refine g_lld hC k rfl (hW.2 59 (by decide)) h2.g105 rfl (by omega) (by decide) ?_
      refine g_run hC 3 rfl ?_
      refine g_lst hC k rfl (hW.2 59 (by decide)) h2.g105 rfl (by omega) (by decide) ?_
      have h3 := h2.s_cl (x9 := va_up cl k (cl k + y.toInt64))
      refine g_run hC 2 rfl ?_
      refine g_get hC rfl F_X3_80 h0 h3.g100 rfl ?_
      refine g_run hC 2 rfl ?_
      refine g_top (nI (an + 1)) (nI_s an) ?_
      refine g_putI hC rfl F_X3_80 h0 h3.g100 (len_of rfl) rfl rfl ?_
      have h4 := h3.obj (th2 := 0) (wi2 := wi) (an2 := an + 1) (li2 := li)
      refine g_run hC 2 rfl ?_
      refine g_putI hC rfl F_X3_52 h0 h4.g100 (len_of rfl) rfl rfl ?_
      have h5 := h4.obj (th2 := 0) (wi2 := wi) (an2 := an + 1) (li2 := 0)
      refine g_run hC 1 rfl ?_
      refine g_get hC rfl F_X3_80 h0 h5.g100 rfl ?_
      exact g_iret hC rfl rfl ⟨Or.inr (Or.inr ⟨k, hk, rfl, by omega, rfl, h5⟩), ((((FM.up (by decide) (by decide)).tr (FM.up (by decide) (by decide))).tr (FM.up (by decide) (by decide))).tr (FM.up (by decide) (by decide)))⟩ (Nat.le_refl _) (Nat.le_refl _)
    · have h9 : an = 40 := (nI_eq (b := 40) (by omega) (by decide)).mp h1
      refine g_run hC 2 rfl ?_
      refine g_putI hC rfl F_X3_41 h0 h.g100 (len_of rfl) rfl rfl ?_
      have h2 := h.obj (th2 := 2) (wi2 := wi) (an2 := an) (li2 := li)
      refine g_run hC 1 rfl ?_
      refine g_get hC rfl F_X3_41 h0 h2.g100 rfl ?_
      refine g_ifle (tgt := 39) hC rfl (by decide) (fun h3 => absurd h3 (by decide)) (fun _ => ?_)
      refine g_run hC 1 rfl ?_
      exact g_iret hC rfl rfl ⟨Or.inr (Or.inl ⟨rfl, h9, ⟨_, rfl⟩, h2⟩), FM.up (by decide) (by decide)⟩ (Nat.le_refl _) (Nat.le_refl _)
end
end
section
def passN (f : Nat → Int64) (b : Nat) : Nat → Nat → Int64
  | 0 => f
  | i + 1 => if i &&& b = 0 then passN f b i else va_up (passN f b i) i (passN f b i i - passN f b i (i ^^^ b))
def mobN (f : Nat → Int64) (N : Nat) : Nat → Nat → Int64
  | 0 => f
  | j + 1 => passN (mobN f N j) (2 ^ j) N
def spN (st : Nat → Nat) (nu : Nat → Int64) (b p : Nat) : Nat → Int64
  | 0 => 0
  | i + 1 => if st (b + i) &&& p = st (b + i) then spN st nu b p i + nu (b + i) else spN st nu b p i
def gwN (inp : Nat) : Nat → Nat → Nat
  | 0, _ => 0
  | w + 1, left => if (if inp &&& 2 ^ w = 0 then left - 1 else left) = 0 then w + 1 else gwN inp w (if inp &&& 2 ^ w = 0 then left - 1 else left)
def ngN (inp : Nat) : Nat → Nat
  | 0 => 0
  | w + 1 => if inp &&& 2 ^ w = 0 then ngN inp w + 1 else ngN inp w
theorem ngN_le (inp : Nat) : ∀ w, ngN inp w ≤ w
  | 0 => Nat.le_refl _
  | w + 1 => by
    have := ngN_le inp w
    simp only [ngN]
    split <;> omega
theorem xor_lt9 {i b n : Nat} (hi : i < 2 ^ n) (hb : b < 2 ^ n) : i ^^^ b < 2 ^ n := Nat.xor_lt_two_pow hi hb
theorem p2_mono {a b : Nat} (h : a ≤ b) : 2 ^ a ≤ 2 ^ b := Nat.pow_le_pow_right (by decide) h
theorem p2_smono {a b : Nat} (h : a < b) : 2 ^ a < 2 ^ b := Nat.pow_lt_pow_of_lt (by decide) h
section
variable {l : Launch} {D : va_G} {dA ad sa : Nat → Nat} {L : List Nat} {hp : Nat → KE} {th wi an li inp : Nat} {ki fi se tr : Nat → Int32} {cl : Nat → Int64} {si st : Nat → Nat} {nu wo fr : Nat → Int64} {gt : Nat → GT}
theorem c_X3_coefficients (hW : KF ad L) (h : MR hp th wi an li ki fi se tr cl si st nu wo fr) (hn : wi ≤ 9) : KM l yX3_coefficients cX3_coefficients 4 (some .int) (rmK 0 0 0) D dA ad sa L [.ref 54] hp
    (fun r hp' => r = some (.int (nI (cntN (mobN wo (2 ^ wi) wi) (2 ^ wi)))) ∧ MR hp' th wi an li ki fi se tr cl si st nu (mobN wo (2 ^ wi) wi) fr ∧ FM hp hp') := by
  refine KM.of rfl ok_X3_coefficients (len_of rfl) hW.1.1 hW.1.2 ?_
  intro p e s m args below meth c A hC hN
  have h0 := hW.2 54 (by decide)
  have h109 := hW.2 63 (by decide)
  have h2 := p2_lt hn
  have hU : ∀ w9 : Nat → Int64, MR (va_up hp 63 (kJ 512 w9)) th wi an li ki fi se tr cl si st nu w9 fr := fun w9 => h.s_wo
  refine g_run hC 2 rfl ?_
  refine g_get hC rfl F_X3_45 h0 h.g100 rfl ?_
  refine g_run hC 4 rfl ?_
  refine g_loop 0 wi (fun j => va_up hp 63 (kJ 512 (mobN wo (2 ^ wi) j))) (fun j => [(0, .ref 54), (1, .int (nI (2 ^ wi))), (2, .int (nI (2 ^ j)))]) (Nat.zero_le _) (up_same h.g109).symm ⟨rfl, sI (shl_1 wi (by omega)), rfl, trivial⟩ ?_ ?_
  · intro j _ hj ih
    have hpj : 2 ^ j < 2 ^ wi := p2_smono hj
    refine g_run hC 2 rfl ?_
    refine g_icge (tgt := 70) hC rfl (by decide) (fun h1 => ?_) (fun _ => ?_)
    · exact absurd ((nI_leI (a := 2 ^ wi) (b := 2 ^ j) (by omega) (by omega)).mp h1) (by omega)
    · refine g_run hC 2 rfl ?_
      refine g_loop 0 (2 ^ wi) (fun i => va_up hp 63 (kJ 512 (passN (mobN wo (2 ^ wi) j) (2 ^ j) i))) (fun i => [(0, .ref 54), (1, .int (nI (2 ^ wi))), (2, .int (nI (2 ^ j))), (3, .int (nI i))]) (Nat.zero_le _) rfl ⟨rfl, rfl, rfl, rfl, trivial⟩ ?_ ?_
      · intro i _ hi ih2
        refine g_run hC 2 rfl ?_
        refine g_icge (tgt := 63) hC rfl (by decide) (fun h1 => ?_) (fun _ => ?_)
        · exact absurd ((nI_leI (a := 2 ^ wi) (b := i) (by omega) (by omega)).mp h1) (by omega)
        · refine g_run hC 1 rfl ?_
          refine g_get hC rfl F_X3_35 h0 (hU _).g100 rfl ?_
          refine g_run hC 4 rfl ?_
          refine g_top (nI (i &&& 2 ^ j)) (nI_and _ _) ?_
          have hz := nI_z (n := i &&& 2 ^ j) (Nat.lt_of_le_of_lt Nat.and_le_left (by omega))
          refine g_cut (va_up hp 63 (kJ 512 (passN (mobN wo (2 ^ wi) j) (2 ^ j) i))) 56 [(0, .ref 54), (1, .int (nI (2 ^ wi))), (2, .int (nI (2 ^ j))), (3, .int (nI i))] [.long (passN (mobN wo (2 ^ wi) j) (2 ^ j) (i + 1) i), .int (nI i), .ref 63] ?_ (fun t56 => ?_)
          · refine g_lst hC i rfl h109 (hU _).g109 rfl (by omega) (by decide) ?_
            refine g_run hC 2 rfl ?_
            refine g_hp ?_ (g_lvs ih2 ⟨rfl, rfl, rfl, sI (nI_s i), trivial⟩)
            rw [up_up]
            simp only [passN]
            split
            · rw [show va_up (passN (mobN wo (2 ^ wi) j) (2 ^ j) i) i (passN (mobN wo (2 ^ wi) j) (2 ^ j) i i) = passN (mobN wo (2 ^ wi) j) (2 ^ j) i from by
                funext k9; by_cases hk : k9 = i
                · subst hk; rw [va_up_self]
                · rw [va_up_ne _ _ hk]]
            · rw [va_up_self]
          · refine g_ifeq (tgt := 50) hC rfl (by decide) (fun h1 => ?_) (fun h1 => ?_)
            · refine g_run hC 1 rfl ?_
              refine g_get hC rfl F_X3_35 h0 (hU _).g100 rfl ?_
              refine g_run hC 1 rfl ?_
              refine g_lld hC i rfl h109 (hU _).g109 rfl (by omega) (by decide) ?_
              refine g_cv rfl ?_ (g_lvs t56 ⟨rfl, rfl, rfl, rfl, trivial⟩)
              simp only [passN]
              rw [if_pos (hz.mp h1)]
            · have h3 : ¬ i &&& 2 ^ j = 0 := fun z => h1 (hz.mpr z)
              have h4 := xor_lt9 hi hpj
              refine g_run hC 1 rfl ?_
              refine g_get hC rfl F_X3_35 h0 (hU _).g100 rfl ?_
              refine g_run hC 1 rfl ?_
              refine g_lld hC i rfl h109 (hU _).g109 rfl (by omega) (by decide) ?_
              refine g_run hC 1 rfl ?_
              refine g_get hC rfl F_X3_35 h0 (hU _).g100 rfl ?_
              refine g_run hC 3 rfl ?_
              refine g_lld hC (i ^^^ 2 ^ j) rfl h109 (hU _).g109 (nI_xor _ _) (by omega) (by decide) ?_
              refine g_run hC 2 rfl ?_
              refine g_cv rfl ?_ (g_lvs t56 ⟨rfl, rfl, rfl, rfl, trivial⟩)
              simp only [passN]
              rw [if_neg h3, va_up_self]
      · refine g_run hC 2 rfl ?_
        refine g_icge (tgt := 63) hC rfl (by decide) (fun _ => ?_) (fun h1 => absurd (Int32.le_refl _) h1)
        refine g_run hC 5 rfl ?_
        refine g_lvs ih ⟨rfl, rfl, sI ?_, trivial⟩
        show nI 2 * nI (2 ^ j) = _
        rw [pk_mul, Nat.pow_succ, Nat.mul_comm]
  · refine g_run hC 2 rfl ?_
    refine g_icge (tgt := 70) hC rfl (by decide) (fun _ => ?_) (fun h1 => absurd (Int32.le_refl _) h1)
    generalize mobN wo (2 ^ wi) wi = w9
    refine g_run hC 4 rfl ?_
    refine g_loop 0 (2 ^ wi) (fun _ => va_up hp 63 (kJ 512 w9)) (fun i => [(0, .ref 54), (1, .int (nI (2 ^ wi))), (2, .int (nI (cntN w9 i))), (3, .int (nI i))]) (Nat.zero_le _) rfl ⟨rfl, rfl, rfl, rfl, trivial⟩ ?_ ?_
    · intro i _ hi ih
      refine g_run hC 2 rfl ?_
      refine g_icge (tgt := 104) hC rfl (by decide) (fun h1 => ?_) (fun _ => ?_)
      · exact absurd ((nI_leI (a := 2 ^ wi) (b := i) (by omega) (by omega)).mp h1) (by omega)
      · refine g_run hC 1 rfl ?_
        refine g_get hC rfl F_X3_35 h0 (hU _).g100 rfl ?_
        refine g_run hC 1 rfl ?_
        refine g_lld hC i rfl h109 (hU _).g109 rfl (by omega) (by decide) ?_
        refine g_run hC 2 rfl ?_
        refine g_cut (va_up hp 63 (kJ 512 w9)) 97 [(0, .ref 54), (1, .int (nI (2 ^ wi))), (3, .int (nI i))] [.int (nI (cntN w9 (i + 1)))] ?_ (fun t97 => ?_)
        · refine g_run hC 3 rfl ?_
          exact g_lvs ih ⟨rfl, rfl, rfl, sI (nI_s i), trivial⟩
        · refine g_ifeq (tgt := 96) hC rfl (by decide) (fun h1 => ?_) (fun h1 => ?_)
          · refine g_run hC 1 rfl ?_
            refine g_cv rfl ?_ (g_lvs t97 ⟨rfl, rfl, rfl, trivial⟩)
            simp only [cntN]
            rw [if_pos ((cmpz _).mp h1)]; rfl
          · refine g_run hC 4 rfl ?_
            refine g_top (nI (cntN w9 i + 1)) (nI_s _) ?_
            refine g_cv rfl ?_ (g_lvs t97 ⟨rfl, rfl, rfl, trivial⟩)
            simp only [cntN]
            rw [if_neg (fun z => h1 ((cmpz _).mpr z))]
    · refine g_run hC 2 rfl ?_
      refine g_icge (tgt := 104) hC rfl (by decide) (fun _ => ?_) (fun h1 => absurd (Int32.le_refl _) h1)
      refine g_run hC 1 rfl ?_
      exact g_iret hC rfl rfl ⟨rfl, hU _, FM.up (by decide) (by decide)⟩ (Nat.le_refl _) (Nat.le_refl _)
theorem c_X3_find (hW : KF ad L) (h : MR hp th wi an li ki fi se tr cl si st nu wo fr) (k s0 : Nat) (hk : k < 10) (hsz : si k ≤ 40) (hst : ∀ i, i < si k → st (40 * k + i) < 512) (hs : s0 < 512) : KM l yX3_find cX3_find 4 (some .int) (rmK 0 0 0) D dA ad sa L [.ref 54, .int (nI k), .int (nI s0)] hp
    (fun r hp' => ((∃ i, i < si k ∧ st (40 * k + i) = s0 ∧ r = some (.int (nI (40 * k + i)))) ∨ ((∀ i, i < si k → ¬ st (40 * k + i) = s0) ∧ r = some (.int (cI (-1))))) ∧ hp' = hp) := by
  refine KM.of rfl ok_X3_find (len_of rfl) hW.1.1 hW.1.2 ?_
  intro p e s m args below meth c A hC hN
  have h0 := hW.2 54 (by decide)
  refine g_run hC 4 rfl ?_
  refine g_ind (σ := Nat) (fun x => si k - x) (fun x => x ≤ si k ∧ ∀ i, i < x → ¬ st (40 * k + i) = s0) (fun _ => hp) (fun x => [(0, .ref 54), (1, .int (nI k)), (2, .int (nI s0)), (3, .int (nI (40 * k + x)))]) 0 ⟨Nat.zero_le _, fun i hi => absurd hi (Nat.not_lt_zero i)⟩ rfl ⟨rfl, rfl, rfl, sI (pk_mul 40 k), trivial⟩ ?_
  rintro x ⟨hx, hpre⟩ ih
  refine g_run hC 5 rfl ?_
  refine g_get hC rfl F_X3_26 h0 h.g100 rfl ?_
  refine g_run hC 1 rfl ?_
  refine g_ild hC k rfl (hW.2 60 (by decide)) h.g106 rfl hk (by decide) ?_
  refine g_run hC 1 rfl ?_
  refine g_top (nI (40 * k + si k)) ?_ ?_
  · show nI 40 * nI k + nI (si k) = _
    rw [pk_mul, nI_add]
  refine g_icge (tgt := 38) hC rfl (by decide) (fun h1 => ?_) (fun h1 => ?_)
  · have h2 := (nI_leI (a := 40 * k + si k) (b := 40 * k + x) (by omega) (by omega)).mp h1
    refine g_run hC 1 rfl ?_
    exact g_iret hC rfl rfl ⟨Or.inr ⟨fun i hi => hpre i (by omega), rfl⟩, rfl⟩ (Nat.le_refl _) (Nat.le_refl _)
  · have h2 : ¬ 40 * k + si k ≤ 40 * k + x := fun z => h1 ((nI_leI (a := 40 * k + si k) (b := 40 * k + x) (by omega) (by omega)).mpr z)
    have h3 := hst x (by omega)
    refine g_run hC 1 rfl ?_
    refine g_get hC rfl F_X3_29 h0 h.g100 rfl ?_
    refine g_run hC 1 rfl ?_
    refine g_ild hC (40 * k + x) rfl (hW.2 61 (by decide)) h.g107 rfl (by omega) (by decide) ?_
    refine g_run hC 1 rfl ?_
    refine g_icne (tgt := 32) hC rfl (by decide) (fun h4 => ?_) (fun h4 => ?_)
    · refine g_run hC 2 rfl ?_
      refine g_lvs (ih (x + 1) ⟨by omega, fun i hi => ?_⟩ (by omega)) ⟨rfl, rfl, rfl, sI (nI_s (40 * k + x)), trivial⟩
      by_cases hix : i = x
      · subst hix; exact fun z => h4 (by rw [z])
      · exact hpre i (by omega)
    · have h5 : st (40 * k + x) = s0 := (nI_eq (by omega) (by omega)).mp h4
      refine g_run hC 1 rfl ?_
      exact g_iret hC rfl rfl ⟨Or.inl ⟨x, by omega, h5, rfl⟩, rfl⟩ (Nat.le_refl _) (Nat.le_refl _)
/-- line k of the reference holds the polynomial row -/
def LN (n : Nat) (si st : Nat → Nat) (nu : Nat → Int64) (k : Nat) (row : Nat → Int64) : Prop :=
  si k ≤ 40 ∧ cnt row = si k ∧ (∀ i, i < si k → st (40 * k + i) < 2 ^ n ∧ nu (40 * k + i) = row (st (40 * k + i)) ∧ ¬ row (st (40 * k + i)) = 0) ∧ (∀ s, s < 512 → ¬ row s = 0 → ∃ i, i < si k ∧ st (40 * k + i) = s) ∧ (∀ i j, i < si k → j < si k → st (40 * k + i) = st (40 * k + j) → i = j)
theorem LN.lt {n k : Nat} {row : Nat → Int64} (hn : n ≤ 9) (hL : LN n si st nu k row) : ∀ i, i < si k → st (40 * k + i) < 512 := fun i hi => Nat.lt_of_lt_of_le (hL.2.2.1 i hi).1 (p2_lt hn)
theorem c_X3_has (hW : KF ad L) (h : MR hp th wi an li ki fi se tr cl si st nu wo fr) (hn : wi ≤ 9) (k s0 : Nat) (row : Nat → Int64) (hk : k < 10) (hL : LN wi si st nu k row) (hs : s0 < 512) : KM l yX3_has cX3_has 4 (some .long) (rmK 1 0 0) D dA ad sa L [.ref 54, .int (nI k), .int (nI s0)] hp (fun r hp' => r = some (.long (row s0)) ∧ hp' = hp) := by
  refine KM.of rfl ok_X3_has (len_of rfl) hW.1.1 hW.1.2 ?_
  intro p e s m args below meth c A hC hN
  have h0 := hW.2 54 (by decide)
  refine g_run hC 3 rfl ?_
  refine g_callV hC hN [.int (nI k), .int (nI s0)] (c_X3_find hW h k s0 hk hL.1 (hL.lt hn) hs) rfl M_X3_83 h0 h.g100 rfl rfl (len_of rfl) (by decide) (by decide) ?_
  rintro r hp1 ⟨⟨i, hi, h1, rfl⟩ | ⟨h1, rfl⟩, rfl⟩
  · obtain ⟨q1, q2, q3⟩ := hL.2.2.1 i hi
    have hl40 := hL.1
    refine g_run hC 2 rfl ?_
    refine g_ifge (tgt := 15) hC rfl (by decide) (fun _ => ?_) (fun h2 => absurd (nI_pos' (by omega)) h2)
    refine g_run hC 1 rfl ?_
    refine g_get hC rfl F_X3_32 h0 h.g100 rfl ?_
    refine g_run hC 1 rfl ?_
    refine g_lld hC (40 * k + i) rfl (hW.2 62 (by decide)) h.g108 rfl (by omega) (by decide) ?_
    rw [q2, h1]
    exact g_lret hC rfl rfl ⟨rfl, rfl⟩ (Nat.le_refl _) (Nat.le_refl _)
  · refine g_run hC 2 rfl ?_
    refine g_ifge (tgt := 15) hC rfl (by decide) (fun h2 => absurd h2 (by decide)) (fun _ => ?_)
    refine g_run hC 2 rfl ?_
    refine g_lret hC rfl rfl ⟨?_, rfl⟩ (Nat.le_refl _) (Nat.le_refl _)
    by_cases hr : row s0 = 0
    · rw [hr]; rfl
    · obtain ⟨i, hi, h3⟩ := hL.2.2.2.1 s0 hs hr
      exact absurd h3 (h1 i hi)
theorem c_X3_values (hW : KF ad L) (h : MR hp th wi an li ki fi se tr cl si st nu wo fr) (hn : wi ≤ 9) (k : Nat) (hk : k < 10) (hsz : si k ≤ 40) (hst : ∀ i, i < si k → st (40 * k + i) < 512) : KM l yX3_values cX3_values 4 none (rmK 0 0 0) D dA ad sa L [.ref 54, .int (nI k)] hp
    (fun r hp' => r = none ∧ (∃ fr', MR hp' th wi an li ki fi se tr cl si st nu wo fr' ∧ ∀ p, p < 2 ^ wi → fr' p = spN st nu (40 * k) p (si k)) ∧ FM hp hp') := by
  refine KM.of rfl ok_X3_values (len_of rfl) hW.1.1 hW.1.2 ?_
  intro p e s m args below meth c A hC hN
  have h0 := hW.2 54 (by decide)
  have h110 := hW.2 64 (by decide)
  have h2 := p2_lt hn
  have hU : ∀ w9 : Nat → Int64, MR (va_up hp 64 (kJ 512 w9)) th wi an li ki fi se tr cl si st nu wo w9 := fun w9 => h.s_fr
  refine g_run hC 2 rfl ?_
  refine g_loop 0 (2 ^ wi) (fun q => va_up hp 64 (kJ 512 (fun j => if j < q then spN st nu (40 * k) j (si k) else fr j))) (fun q => [(0, .ref 54), (1, .int (nI k)), (2, .int (nI q))]) (Nat.zero_le _) ?_ ⟨rfl, rfl, rfl, trivial⟩ ?_ ?_
  · rw [show (fun j => if j < 0 then spN st nu (40 * k) j (si k) else fr j) = fr from by funext j; simp]
    exact (up_same h.g110).symm
  · intro q _ hq ih
    refine g_run hC 3 rfl ?_
    refine g_get hC rfl F_X3_45 h0 (hU _).g100 rfl ?_
    refine g_run hC 1 rfl ?_
    refine g_top (nI (2 ^ wi)) (shl_1 wi (by omega)) ?_
    refine g_icge (tgt := 96) hC rfl (by decide) (fun h1 => ?_) (fun _ => ?_)
    · exact absurd ((nI_leI (a := 2 ^ wi) (b := q) (by omega) (by omega)).mp h1) (by omega)
    · refine g_run hC 1 rfl ?_
      refine g_get hC rfl F_X3_38 h0 (hU _).g100 rfl ?_
      refine g_run hC 2 rfl ?_
      refine g_lst hC q rfl h110 (hU _).g110 rfl (by omega) (by decide) ?_
      rw [up_up]
      refine g_run hC 4 rfl ?_
      generalize hF : (fun j => if j < q then spN st nu (40 * k) j (si k) else fr j) = F
      refine g_loop 0 (si k) (fun i => va_up hp 64 (kJ 512 (va_up F q (spN st nu (40 * k) q i)))) (fun i => [(0, .ref 54), (1, .int (nI k)), (2, .int (nI q)), (3, .int (nI (40 * k + i)))]) (Nat.zero_le _) rfl ⟨rfl, rfl, rfl, sI (pk_mul 40 k), trivial⟩ ?_ ?_
      · intro i _ hi ih2
        have h3 := hst i hi
        refine g_run hC 5 rfl ?_
        refine g_get hC rfl F_X3_26 h0 (hU _).g100 rfl ?_
        refine g_run hC 1 rfl ?_
        refine g_ild hC k rfl (hW.2 60 (by decide)) (hU _).g106 rfl hk (by decide) ?_
        refine g_run hC 1 rfl ?_
        refine g_top (nI (40 * k + si k)) ?_ ?_
        · show nI 40 * nI k + nI (si k) = _
          rw [pk_mul, nI_add]
        refine g_icge (tgt := 90) hC rfl (by decide) (fun h1 => ?_) (fun _ => ?_)
        · exact absurd ((nI_leI (a := 40 * k + si k) (b := 40 * k + i) (by omega) (by omega)).mp h1) (by omega)
        · refine g_run hC 1 rfl ?_
          refine g_get hC rfl F_X3_38 h0 (hU _).g100 rfl ?_
          refine g_run hC 2 rfl ?_
          refine g_get hC rfl F_X3_29 h0 (hU _).g100 rfl ?_
          refine g_run hC 1 rfl ?_
          refine g_ild hC (40 * k + i) rfl (hW.2 61 (by decide)) (hU _).g107 rfl (by omega) (by decide) ?_
          refine g_run hC 3 rfl ?_
          refine g_get hC rfl F_X3_29 h0 (hU _).g100 rfl ?_
          refine g_run hC 1 rfl ?_
          refine g_ild hC (40 * k + i) rfl (hW.2 61 (by decide)) (hU _).g107 rfl (by omega) (by decide) ?_
          have hE : nI (st (40 * k + i)) &&& nI q = nI (st (40 * k + i)) ↔ st (40 * k + i) &&& q = st (40 * k + i) := by rw [nI_and]; exact nI_eq (Nat.lt_of_le_of_lt Nat.and_le_left (by omega)) (by omega)
          refine g_cut (va_up hp 64 (kJ 512 (va_up F q (spN st nu (40 * k) q i)))) 83 [(0, .ref 54), (1, .int (nI k)), (2, .int (nI q)), (3, .int (nI (40 * k + i)))] [.long (spN st nu (40 * k) q (i + 1)), .int (nI q), .ref 64] ?_ (fun t83 => ?_)
          · refine g_lst hC q rfl h110 (hU _).g110 rfl (by omega) (by decide) ?_
            refine g_run hC 2 rfl ?_
            refine g_hp ?_ (g_lvs ih2 ⟨rfl, rfl, rfl, sI (nI_s (40 * k + i)), trivial⟩)
            rw [up_up]
            congr 2
            funext j
            by_cases hj : j = q
            · subst hj; rw [va_up_self, va_up_self]
            · rw [va_up_ne _ _ hj, va_up_ne _ _ hj, va_up_ne _ _ hj]
          · simp only [spN] at t83
            refine g_icne (tgt := 77) hC rfl (by decide) (fun h1 => ?_) (fun h1 => ?_)
            · rw [if_neg (fun z => h1 (hE.mpr z))] at t83
              refine g_run hC 1 rfl ?_
              refine g_get hC rfl F_X3_38 h0 (hU _).g100 rfl ?_
              refine g_run hC 1 rfl ?_
              refine g_lld hC q rfl h110 (hU _).g110 rfl (by omega) (by decide) ?_
              rw [va_up_self]
              exact g_lvs t83 ⟨rfl, rfl, rfl, rfl, trivial⟩
            · rw [if_pos (hE.mp h1)] at t83
              refine g_run hC 1 rfl ?_
              refine g_get hC rfl F_X3_38 h0 (hU _).g100 rfl ?_
              refine g_run hC 1 rfl ?_
              refine g_lld hC q rfl h110 (hU _).g110 rfl (by omega) (by decide) ?_
              rw [va_up_self]
              refine g_run hC 1 rfl ?_
              refine g_get hC rfl F_X3_32 h0 (hU _).g100 rfl ?_
              refine g_run hC 1 rfl ?_
              refine g_lld hC (40 * k + i) rfl (hW.2 62 (by decide)) (hU _).g108 rfl (by omega) (by decide) ?_
              refine g_run hC 2 rfl ?_
              exact g_lvs t83 ⟨rfl, rfl, rfl, rfl, trivial⟩
      · refine g_run hC 5 rfl ?_
        refine g_get hC rfl F_X3_26 h0 (hU _).g100 rfl ?_
        refine g_run hC 1 rfl ?_
        refine g_ild hC k rfl (hW.2 60 (by decide)) (hU _).g106 rfl hk (by decide) ?_
        refine g_run hC 1 rfl ?_
        refine g_top (nI (40 * k + si k)) ?_ ?_
        · show nI 40 * nI k + nI (si k) = _
          rw [pk_mul, nI_add]
        refine g_icge (tgt := 90) hC rfl (by decide) (fun _ => ?_) (fun h1 => absurd (Int32.le_refl _) h1)
        refine g_run hC 2 rfl ?_
        refine g_hp ?_ (g_lvs ih ⟨rfl, rfl, sI (nI_s q), trivial⟩)
        congr 2
        funext j
        rw [← hF]
        by_cases hj : j = q
        · subst hj; rw [va_up_self, if_pos (by omega)]
        · rw [va_up_ne _ _ hj]
          by_cases h5 : j < q
          · rw [if_pos h5, if_pos (by omega)]
          · rw [if_neg h5, if_neg (by omega)]
  · refine g_run hC 3 rfl ?_
    refine g_get hC rfl F_X3_45 h0 (hU _).g100 rfl ?_
    refine g_run hC 1 rfl ?_
    refine g_top (nI (2 ^ wi)) (shl_1 wi (by omega)) ?_
    refine g_icge (tgt := 96) hC rfl (by decide) (fun _ => ?_) (fun h1 => absurd (Int32.le_refl _) h1)
    exact g_ret hC rfl rfl ⟨rfl, ⟨_, hU _, fun p hp9 => if_pos hp9⟩, FM.up (by decide) (by decide)⟩ (Nat.le_refl _) (Nat.le_refl _)
end
end
section
def stK (st : Nat → Nat) (wo : Nat → Int64) (b : Nat) : Nat → Nat → Nat
  | 0 => st
  | i + 1 => if wo i = 0 then stK st wo b i else va_up (stK st wo b i) (b + cntN wo i) i
def nuK (nu : Nat → Int64) (wo : Nat → Int64) (b : Nat) : Nat → Nat → Int64
  | 0 => nu
  | i + 1 => if wo i = 0 then nuK nu wo b i else va_up (nuK nu wo b i) (b + cntN wo i) (wo i)
def lackN (li : Nat) (x : Int32) : Nat := if li = 0 then 1 else if lineB li x = true then 0 else 2
def mN (s : Nat) : Nat → Nat
  | 0 => 0
  | k + 1 => mN s k + s / 2 ^ k % 2
theorem mN_pop (s : Nat) : mN s 9 = popN s := by simp [mN, popN]
theorem mN_le (s : Nat) : ∀ k, mN s k ≤ k
  | 0 => Nat.le_refl _
  | k + 1 => by
    have := mN_le s k
    simp only [mN]
    omega
def wtN (row : Nat → Int64) : Nat → Option Nat
  | 0 => none
  | i + 1 => if row i = 0 then wtN row i else match wtN row i with
    | none => some i
    | some b => if popN i < popN b then some i else some b
def bV (o : Option Nat) : Int32 := match o with
  | none => cI (-1)
  | some b => nI b
theorem wtN_lt {row : Nat → Int64} : ∀ {i b : Nat}, wtN row i = some b → b < i
  | 0, b, h => by cases h
  | i + 1, b, h => by
    simp only [wtN] at h
    split at h
    · exact Nat.lt_succ_of_lt (wtN_lt h)
    · split at h
      · cases h; exact Nat.lt_succ_self _
      · rename_i b9 hb9
        split at h
        · cases h; exact Nat.lt_succ_self _
        · cases h; exact Nat.lt_succ_of_lt (wtN_lt hb9)
theorem lineM {li : Nat} {x : Int32} (h0 : ¬ li = 0) (hl : li ≤ 10) : (decide (nI 0 ≤ x) && decide (x ≤ nI (li - 1))) = lineB li x := by
  unfold lineB
  have e : x ≤ nI (li - 1) ↔ x < nI li := by
    rw [Int32.le_iff_toInt_le, Int32.lt_iff_toInt_lt, nI_toInt (by omega), nI_toInt (by omega)]
    omega
  rw [nI_0, decide_eq_decide.mpr e]
theorem monB {c : Nat} {y : Int32} (hc : c ≤ 40) : (decide (nI 0 ≤ y) && decide (y ≤ nI c - nI 1)) = true ↔ ∃ i, i < c ∧ y = nI i := by
  simp only [Bool.and_eq_true, decide_eq_true_eq]
  by_cases h0 : c = 0
  · subst h0
    constructor
    · rintro ⟨h1, h2⟩
      exact absurd (Int32.le_trans h1 h2) (by decide)
    · rintro ⟨i, hi, -⟩; omega
  · rw [pk_sub (a := c) (b := 1) (by omega)]
    constructor
    · rintro ⟨h1, h2⟩
      rcases pk_ix y (n := c) (by omega) with h4 | h4 | ⟨j, hj, e⟩
      · exact absurd h1 (Int32.not_le.mpr h4)
      · have h5 : nI c ≤ nI (c - 1) := Int32.le_trans h4 h2
        exact absurd ((nI_leI (by omega) (by omega)).mp h5) (by omega)
      · exact ⟨j, hj, e⟩
    · rintro ⟨i, hi, rfl⟩
      exact ⟨nI_le (Nat.zero_le _) (by omega), nI_le (by omega) (by omega)⟩
section
variable {l : Launch} {D : va_G} {dA ad sa : Nat → Nat} {L : List Nat} {hp : Nat → KE} {th wi an li inp : Nat} {ki fi se tr : Nat → Int32} {cl : Nat → Int64} {si st : Nat → Nat} {nu wo fr : Nat → Int64} {gt : Nat → GT}
theorem kind_sgn (hM : MGs wi inp gt ki fi se tr) (hgd : ∀ i, i < wi → inp &&& 2 ^ i = 0 → gGood i (gt i)) {i : Nat} (hi : i < wi) : (inp &&& 2 ^ i = 0 → ¬ ki (i + 1) < 0) ∧ (¬ inp &&& 2 ^ i = 0 → ki (i + 1) < 0) := by
  constructor
  · intro hg
    rw [((hM i hi).1 hg).1]
    have := (hgd i hi hg).1
    exact nI_pos (by omega)
  · intro hg
    rw [(hM i hi).2 hg]
    exact neg1_lt
theorem c_X3_gateWire (hW : KF ad L) (h : MR hp th wi an li ki fi se tr cl si st nu wo fr) (hn : wi ≤ 9) (hM : MGs wi inp gt ki fi se tr) (hgd : ∀ i, i < wi → inp &&& 2 ^ i = 0 → gGood i (gt i)) (k : Nat) (hk : 0 < k) (hk2 : k < 2 ^ 31) : KM l yX3_gateWire cX3_gateWire 4 (some .int) (rmK 0 0 0) D dA ad sa L [.ref 54, .int (nI k)] hp (fun r hp' => r = some (.int (nI (gwN inp wi k))) ∧ hp' = hp) := by
  refine KM.of rfl ok_X3_gateWire (len_of rfl) hW.1.1 hW.1.2 ?_
  intro p e s m args below meth c A hC hN
  have h0 := hW.2 54 (by decide)
  generalize hR : gwN inp wi k = RR
  refine g_run hC 3 rfl ?_
  refine g_get hC rfl F_X3_45 h0 h.g100 rfl ?_
  refine g_run hC 1 rfl ?_
  refine g_ind (σ := Nat × Nat) (fun x => x.1) (fun x => x.1 ≤ wi ∧ 0 < x.2 ∧ x.2 < 2 ^ 31 ∧ gwN inp x.1 x.2 = RR) (fun _ => hp) (fun x => [(0, .ref 54), (2, .int (nI x.2)), (3, .int (nI x.1))]) (wi, k) ⟨Nat.le_refl _, hk, hk2, hR⟩ rfl ⟨rfl, rfl, rfl, trivial⟩ ?_
  rintro ⟨w, lf⟩ ⟨hw, hl, hl2, hr⟩ ih
  dsimp only at hw hl hl2 hr ih ⊢
  refine g_run hC 2 rfl ?_
  refine g_iclt (tgt := 41) hC rfl (by decide) (fun h1 => ?_) (fun h1 => ?_)
  · have hw0 : w = 0 := by
      have := (nI_ltI (a := w) (b := 1) (by omega) (by decide)).mp h1
      omega
    subst hw0
    simp only [gwN] at hr
    refine g_run hC 1 rfl ?_
    refine g_iret hC rfl rfl ⟨?_, rfl⟩ (Nat.le_refl _) (Nat.le_refl _)
    rw [← hr]; rfl
  · have hw0 : ¬ w < 1 := fun z => h1 ((nI_ltI (a := w) (b := 1) (by omega) (by decide)).mpr z)
    obtain ⟨v, rfl⟩ : ∃ v, w = v + 1 := ⟨w - 1, by omega⟩
    simp only [gwN] at hr
    obtain ⟨s1, s2⟩ := kind_sgn hM hgd (show v < wi by omega)
    refine g_run hC 1 rfl ?_
    refine g_get hC rfl F_X3_7 h0 h.g100 rfl ?_
    refine g_run hC 1 rfl ?_
    refine g_ild hC (v + 1) rfl (hW.2 55 (by decide)) h.g101 rfl (by omega) (by decide) ?_
    refine g_cut hp 28 [(0, .ref 54), (3, .int (nI (v + 1)))] [.int (nI (if inp &&& 2 ^ v = 0 then lf - 1 else lf))] ?_ (fun t28 => ?_)
    · generalize hq : (if inp &&& 2 ^ v = 0 then lf - 1 else lf) = l2 at hr
      have hl3 : l2 < 2 ^ 31 := by rw [← hq]; split <;> omega
      refine g_run hC 2 rfl ?_
      refine g_ifne (tgt := 35) hC rfl (by decide) (fun h2 => ?_) (fun h2 => ?_)
      · have h3 : ¬ l2 = 0 := fun z => h2 (by rw [z]; rfl)
        rw [if_neg h3] at hr
        refine g_run hC 2 rfl ?_
        exact g_lvs (ih (v, l2) ⟨by dsimp only; omega, by dsimp only; omega, hl3, hr⟩ (by dsimp only; omega)) ⟨rfl, rfl, sI (m1_pred (Nat.succ_pos v)), trivial⟩
      · have h3 : l2 = 0 := (nI_z hl3).mp h2
        rw [if_pos h3] at hr
        refine g_run hC 1 rfl ?_
        refine g_iret hC rfl rfl ⟨?_, rfl⟩ (Nat.le_refl _) (Nat.le_refl _)
        rw [← hr]
    · by_cases hg : inp &&& 2 ^ v = 0
      · rw [if_pos hg] at t28
        refine g_iflt (tgt := 27) hC rfl (by decide) (fun h2 => absurd h2 (s1 hg)) (fun _ => ?_)
        refine g_run hC 4 rfl ?_
        exact g_top (nI (lf - 1)) (pk_sub (a := lf) (b := 1) (by omega)) (g_lvs t28 ⟨rfl, rfl, trivial⟩)
      · rw [if_neg hg] at t28
        refine g_iflt (tgt := 27) hC rfl (by decide) (fun _ => ?_) (fun h2 => absurd (s2 hg) h2)
        refine g_run hC 1 rfl ?_
        exact g_lvs t28 ⟨rfl, rfl, trivial⟩
theorem c_X3_gates (hW : KF ad L) (h : MR hp th wi an li ki fi se tr cl si st nu wo fr) (hn : wi ≤ 9) (hM : MGs wi inp gt ki fi se tr) (hgd : ∀ i, i < wi → inp &&& 2 ^ i = 0 → gGood i (gt i)) : KM l yX3_gates cX3_gates 3 (some .int) (rmK 0 0 0) D dA ad sa L [.ref 54] hp (fun r hp' => r = some (.int (nI (ngN inp wi))) ∧ hp' = hp) := by
  refine KM.of rfl ok_X3_gates (len_of rfl) hW.1.1 hW.1.2 ?_
  intro p e s m args below meth c A hC hN
  have h0 := hW.2 54 (by decide)
  refine g_run hC 4 rfl ?_
  refine g_loop 0 wi (fun _ => hp) (fun i => [(0, .ref 54), (1, .int (nI (ngN inp i))), (2, .int (nI (i + 1)))]) (Nat.zero_le _) rfl ⟨rfl, rfl, rfl, trivial⟩ ?_ ?_
  · intro i _ hi ih
    obtain ⟨s1, s2⟩ := kind_sgn hM hgd hi
    refine g_run hC 2 rfl ?_
    refine g_get hC rfl F_X3_45 h0 h.g100 rfl ?_
    refine g_icgt (tgt := 35) hC rfl (by decide) (fun h1 => ?_) (fun _ => ?_)
    · exact absurd ((nI_ltI (a := wi) (b := i + 1) (by omega) (by omega)).mp h1) (by omega)
    · refine g_run hC 1 rfl ?_
      refine g_get hC rfl F_X3_7 h0 h.g100 rfl ?_
      refine g_run hC 1 rfl ?_
      refine g_ild hC (i + 1) rfl (hW.2 55 (by decide)) h.g101 rfl (by omega) (by decide) ?_
      refine g_cut hp 28 [(0, .ref 54), (2, .int (nI (i + 1)))] [.int (nI (ngN inp (i + 1)))] ?_ (fun t28 => ?_)
      · refine g_run hC 3 rfl ?_
        exact g_lvs ih ⟨rfl, rfl, sI (nI_s (i + 1)), trivial⟩
      · simp only [ngN] at t28
        by_cases hg : inp &&& 2 ^ i = 0
        · rw [if_pos hg] at t28
          refine g_iflt (tgt := 27) hC rfl (by decide) (fun h2 => absurd h2 (s1 hg)) (fun _ => ?_)
          refine g_run hC 4 rfl ?_
          exact g_top (nI (ngN inp i + 1)) (nI_s _) (g_lvs t28 ⟨rfl, rfl, trivial⟩)
        · rw [if_neg hg] at t28
          refine g_iflt (tgt := 27) hC rfl (by decide) (fun _ => ?_) (fun h2 => absurd (s2 hg) h2)
          refine g_run hC 1 rfl ?_
          exact g_lvs t28 ⟨rfl, rfl, trivial⟩
  · refine g_run hC 2 rfl ?_
    refine g_get hC rfl F_X3_45 h0 h.g100 rfl ?_
    refine g_icgt (tgt := 35) hC rfl (by decide) (fun _ => ?_) (fun h1 => absurd (nI_lt (Nat.lt_succ_self wi) (by omega)) h1)
    refine g_run hC 1 rfl ?_
    exact g_iret hC rfl rfl ⟨rfl, rfl⟩ (Nat.le_refl _) (Nat.le_refl _)
theorem c_X3_keep (hW : KF ad L) (h : MR hp th wi an li ki fi se tr cl si st nu wo fr) (hn : wi ≤ 9) (k : Nat) (hk : k < 10) (hc : cntN wo (2 ^ wi) ≤ 40) (hmono : ∀ i, i < 2 ^ wi → cntN wo (i + 1) ≤ cntN wo (2 ^ wi)) : KM l yX3_keep cX3_keep 3 none (rmK 0 0 0) D dA ad sa L [.ref 54, .int (nI k)] hp
    (fun r hp' => r = none ∧ MR hp' th wi an li ki fi se tr cl (va_up si k (cntN wo (2 ^ wi))) (stK st wo (40 * k) (2 ^ wi)) (nuK nu wo (40 * k) (2 ^ wi)) wo fr ∧ FM hp hp') := by
  refine KM.of rfl ok_X3_keep (len_of rfl) hW.1.1 hW.1.2 ?_
  intro p e s m args below meth c A hC hN
  have h0 := hW.2 54 (by decide)
  have h2 := p2_lt hn
  refine g_run hC 1 rfl ?_
  refine g_get hC rfl F_X3_26 h0 h.g100 rfl ?_
  refine g_run hC 2 rfl ?_
  refine g_ist hC k rfl (hW.2 60 (by decide)) h.g106 rfl hk (by decide) ?_
  rw [show va_up (fun j => nI (si j)) k (cI 0) = fun j => nI (va_up si k 0 j) from upI]
  refine g_run hC 2 rfl ?_
  have hm := h.s_si (x9 := va_up si k 0)
  refine g_ind (σ := Nat × (Nat → KE)) (fun x => 2 ^ wi - x.1) (fun x => x.1 ≤ 2 ^ wi ∧ MR x.2 th wi an li ki fi se tr cl (va_up si k (cntN wo x.1)) (stK st wo (40 * k) x.1) (nuK nu wo (40 * k) x.1) wo fr ∧ FM hp x.2) (fun x => x.2) (fun x => [(0, .ref 54), (1, .int (nI k)), (2, .int (nI x.1))]) (0, _) ⟨Nat.zero_le _, hm, FM.up (by decide) (by decide)⟩ rfl ⟨rfl, rfl, rfl, trivial⟩ ?_
  rintro ⟨i, hp1⟩ ⟨hi, hx, hf⟩ ih
  dsimp only at hi hx hf ih ⊢
  refine g_run hC 3 rfl ?_
  refine g_get hC rfl F_X3_45 h0 hx.g100 rfl ?_
  refine g_run hC 1 rfl ?_
  refine g_top (nI (2 ^ wi)) (shl_1 wi (by omega)) ?_
  refine g_icge (tgt := 89) hC rfl (by decide) (fun h1 => ?_) (fun h1 => ?_)
  · have h3 := (nI_leI (a := 2 ^ wi) (b := i) (by omega) (by omega)).mp h1
    have h4 : i = 2 ^ wi := by omega
    subst h4
    exact g_ret hC rfl rfl ⟨rfl, hx, hf⟩ (Nat.le_refl _) (Nat.le_refl _)
  · have h3 : i < 2 ^ wi := by
      have : ¬ 2 ^ wi ≤ i := fun z => h1 ((nI_leI (a := 2 ^ wi) (b := i) (by omega) (by omega)).mpr z)
      omega
    refine g_run hC 1 rfl ?_
    refine g_get hC rfl F_X3_35 h0 hx.g100 rfl ?_
    refine g_run hC 1 rfl ?_
    refine g_lld hC i rfl (hW.2 63 (by decide)) hx.g109 rfl (by omega) (by decide) ?_
    refine g_run hC 2 rfl ?_
    refine g_ifeq (tgt := 83) hC rfl (by decide) (fun h4 => ?_) (fun h4 => ?_)
    · have h5 : wo i = 0 := (cmpz _).mp h4
      refine g_run hC 2 rfl ?_
      refine g_lvs (ih (i + 1, hp1) ⟨by dsimp only; omega, ?_, hf⟩ (by dsimp only; omega)) ⟨rfl, rfl, sI (nI_s i), trivial⟩
      simp only [cntN, stK, nuK]
      rw [if_pos h5, if_pos h5, if_pos h5]
      exact hx
    · have h5 : ¬ wo i = 0 := fun z => h4 ((cmpz _).mpr z)
      have h6 := hmono i h3
      simp only [cntN] at h6
      rw [if_neg h5] at h6
      have hsz : va_up si k (cntN wo i) k = cntN wo i := va_up_self _ _ _
      have e40 : nI 40 * nI k + nI (cntN wo i) = nI (40 * k + cntN wo i) := by rw [pk_mul, nI_add]
      refine g_run hC 1 rfl ?_
      refine g_get hC rfl F_X3_29 h0 hx.g100 rfl ?_
      refine g_run hC 4 rfl ?_
      refine g_get hC rfl F_X3_26 h0 hx.g100 rfl ?_
      refine g_run hC 1 rfl ?_
      refine g_ild hC k rfl (hW.2 60 (by decide)) hx.g106 rfl hk (by decide) ?_
      rw [hsz]
      refine g_run hC 2 rfl ?_
      refine g_ist hC (40 * k + cntN wo i) rfl (hW.2 61 (by decide)) hx.g107 e40 (by omega) (by decide) ?_
      rw [upI]
      have hx1 := hx.s_st (x9 := va_up (stK st wo (40 * k) i) (40 * k + cntN wo i) i)
      refine g_run hC 1 rfl ?_
      refine g_get hC rfl F_X3_32 h0 hx1.g100 rfl ?_
      refine g_run hC 4 rfl ?_
      refine g_get hC rfl F_X3_26 h0 hx1.g100 rfl ?_
      refine g_run hC 1 rfl ?_
      refine g_ild hC k rfl (hW.2 60 (by decide)) hx1.g106 rfl hk (by decide) ?_
      rw [hsz]
      refine g_run hC 2 rfl ?_
      refine g_get hC rfl F_X3_35 h0 hx1.g100 rfl ?_
      refine g_run hC 1 rfl ?_
      refine g_lld hC i rfl (hW.2 63 (by decide)) hx1.g109 rfl (by omega) (by decide) ?_
      refine g_lst hC (40 * k + cntN wo i) rfl (hW.2 62 (by decide)) hx1.g108 e40 (by omega) (by decide) ?_
      have hx2 := hx1.s_nu (x9 := va_up (nuK nu wo (40 * k) i) (40 * k + cntN wo i) (wo i))
      refine g_run hC 1 rfl ?_
      refine g_get hC rfl F_X3_26 h0 hx2.g100 rfl ?_
      refine g_run hC 2 rfl ?_
      refine g_get hC rfl F_X3_26 h0 hx2.g100 rfl ?_
      refine g_run hC 1 rfl ?_
      refine g_ild hC k rfl (hW.2 60 (by decide)) hx2.g106 rfl hk (by decide) ?_
      rw [hsz]
      refine g_run hC 2 rfl ?_
      refine g_top (nI (cntN wo i + 1)) (nI_s _) ?_
      refine g_ist hC k rfl (hW.2 60 (by decide)) hx2.g106 rfl hk (by decide) ?_
      rw [upI]
      rw [show va_up (va_up si k (cntN wo i)) k (cntN wo i + 1) = va_up si k (cntN wo i + 1) from by
        funext j
        by_cases hj : j = k
        · subst hj; rw [va_up_self, va_up_self]
        · rw [va_up_ne _ _ hj, va_up_ne _ _ hj, va_up_ne _ _ hj]]
      have hx3 := hx2.s_si (x9 := va_up si k (cntN wo i + 1))
      refine g_run hC 2 rfl ?_
      refine g_lvs (ih (i + 1, _) ⟨by dsimp only; omega, ?_, hf.tr (((FM.up (by decide) (by decide)).tr (FM.up (by decide) (by decide))).tr (FM.up (by decide) (by decide)))⟩ (by dsimp only; omega)) ⟨rfl, rfl, sI (nI_s i), trivial⟩
      simp only [cntN, stK, nuK]
      rw [if_neg h5, if_neg h5, if_neg h5]
      exact hx3
theorem red_lt {t : GT} {i p n : Nat} (hn : n ≤ 9) (hi : i < n) (hp : p < 2 ^ n) : red t i p < 2 ^ n := by
  unfold red
  split
  · exact Nat.or_lt_two_pow hp (p2_smono hi)
  · exact Nat.lt_of_le_of_lt Nat.and_le_left hp
theorem c_X3_eliminated (hW : KF ad L) (h : MR hp th wi an li ki fi se tr cl si st nu wo fr) (hn : wi ≤ 9) (i : Nat) (hi : i < wi) (hG : mG ki fi se tr (i + 1) (gt i)) (hgg : gGood i (gt i)) : KM l yX3_eliminated cX3_eliminated 3 (some .int) (rmK 3 0 0) D dA ad sa L [.ref 54, .int (nI (i + 1))] hp
    (fun r hp' => ∃ wo' fr', (∀ p, p < 2 ^ wi → fr' p = fr (red (gt i) i p)) ∧ (∃ w1, (∀ p, p < 2 ^ wi → w1 p = fr (red (gt i) i p)) ∧ wo' = mobN w1 (2 ^ wi) wi) ∧ r = some (.int (nI (cntN wo' (2 ^ wi)))) ∧ MR hp' th wi an li ki fi se tr cl si st nu wo' fr' ∧ FM hp hp') := by
  refine KM.of rfl ok_X3_eliminated (len_of rfl) hW.1.1 hW.1.2 ?_
  intro p e s m args below meth c A hC hN
  obtain ⟨g1, g2, g3, g4, -, -⟩ := hgg
  have h0 := hW.2 54 (by decide)
  have h109 := hW.2 63 (by decide)
  have h110 := hW.2 64 (by decide)
  have h2 := p2_lt hn
  have hU : ∀ w9 : Nat → Int64, MR (va_up hp 63 (kJ 512 w9)) th wi an li ki fi se tr cl si st nu w9 fr := fun w9 => h.s_wo
  refine g_run hC 2 rfl ?_
  refine g_loop 0 (2 ^ wi) (fun q => va_up hp 63 (kJ 512 (fun j => if j < q then fr (red (gt i) i j) else wo j))) (fun q => [(0, .ref 54), (1, .int (nI (i + 1))), (2, .int (nI q))]) (Nat.zero_le _) ?_ ⟨rfl, rfl, rfl, trivial⟩ ?_ ?_
  · rw [show (fun j => if j < 0 then fr (red (gt i) i j) else wo j) = wo from by funext j; simp]
    exact (up_same h.g109).symm
  · intro q _ hq ih
    have hrl := red_lt (t := gt i) hn hi hq
    refine g_run hC 3 rfl ?_
    refine g_get hC rfl F_X3_45 h0 (hU _).g100 rfl ?_
    refine g_run hC 1 rfl ?_
    refine g_top (nI (2 ^ wi)) (shl_1 wi (by omega)) ?_
    refine g_icge (tgt := 35) hC rfl (by decide) (fun h1 => ?_) (fun _ => ?_)
    · exact absurd ((nI_leI (a := 2 ^ wi) (b := q) (by omega) (by omega)).mp h1) (by omega)
    · refine g_run hC 1 rfl ?_
      refine g_get hC rfl F_X3_35 h0 (hU _).g100 rfl ?_
      refine g_run hC 2 rfl ?_
      refine g_get hC rfl F_X3_38 h0 (hU _).g100 rfl ?_
      refine g_run hC 3 rfl ?_
      refine g_callV hC hN [.int (nI (i + 1)), .int (nI q)] (c_X3_redirected hW (hU _) i q (gt i) (by omega) hG g1 (by omega) (by omega) (by omega) (by omega)) rfl M_X3_86 h0 (hU _).g100 rfl rfl (len_of rfl) (by decide) (by decide) ?_
      rintro r hp1 ⟨rfl, rfl⟩
      refine g_lld hC (red (gt i) i q) rfl h110 (hU _).g110 rfl (by omega) (by decide) ?_
      refine g_lst hC q rfl h109 (hU _).g109 rfl (by omega) (by decide) ?_
      refine g_run hC 2 rfl ?_
      refine g_hp ?_ (g_lvs ih ⟨rfl, rfl, sI (nI_s q), trivial⟩)
      rw [up_up]
      congr 2
      funext j
      by_cases hj : j = q
      · subst hj; rw [va_up_self, if_pos (by omega)]
      · rw [va_up_ne _ _ hj]
        by_cases h5 : j < q
        · rw [if_pos h5, if_pos (by omega)]
        · rw [if_neg h5, if_neg (by omega)]
  · refine g_run hC 3 rfl ?_
    refine g_get hC rfl F_X3_45 h0 (hU _).g100 rfl ?_
    refine g_run hC 1 rfl ?_
    refine g_top (nI (2 ^ wi)) (shl_1 wi (by omega)) ?_
    refine g_icge (tgt := 35) hC rfl (by decide) (fun _ => ?_) (fun h1 => absurd (Int32.le_refl _) h1)
    have hm := hU (fun j => if j < 2 ^ wi then fr (red (gt i) i j) else wo j)
    have hfm : FM hp (va_up hp 63 (kJ 512 (fun j => if j < 2 ^ wi then fr (red (gt i) i j) else wo j))) := FM.up (by decide) (by decide)
    generalize va_up hp 63 (kJ 512 (fun j => if j < 2 ^ wi then fr (red (gt i) i j) else wo j)) = hp2 at hm hfm ⊢
    have hV : ∀ f9 : Nat → Int64, MR (va_up hp2 64 (kJ 512 f9)) th wi an li ki fi se tr cl si st nu (fun j => if j < 2 ^ wi then fr (red (gt i) i j) else wo j) f9 := fun f9 => hm.s_fr
    refine g_run hC 2 rfl ?_
    refine g_loop 0 (2 ^ wi) (fun q => va_up hp2 64 (kJ 512 (fun j => if j < q then fr (red (gt i) i j) else fr j))) (fun q => [(0, .ref 54), (1, .int (nI (i + 1))), (2, .int (nI q))]) (Nat.zero_le _) ?_ ⟨rfl, rfl, rfl, trivial⟩ ?_ ?_
    · rw [show (fun j => if j < 0 then fr (red (gt i) i j) else fr j) = fr from by funext j; simp]
      exact (up_same hm.g110).symm
    · intro q _ hq ih
      refine g_run hC 3 rfl ?_
      refine g_get hC rfl F_X3_45 h0 (hV _).g100 rfl ?_
      refine g_run hC 1 rfl ?_
      refine g_top (nI (2 ^ wi)) (shl_1 wi (by omega)) ?_
      refine g_icge (tgt := 65) hC rfl (by decide) (fun h1 => ?_) (fun _ => ?_)
      · exact absurd ((nI_leI (a := 2 ^ wi) (b := q) (by omega) (by omega)).mp h1) (by omega)
      · refine g_run hC 1 rfl ?_
        refine g_get hC rfl F_X3_38 h0 (hV _).g100 rfl ?_
        refine g_run hC 2 rfl ?_
        refine g_get hC rfl F_X3_35 h0 (hV _).g100 rfl ?_
        refine g_run hC 1 rfl ?_
        refine g_lld hC q rfl h109 (hV _).g109 rfl (by omega) (by decide) ?_
        rw [if_pos hq]
        refine g_lst hC q rfl h110 (hV _).g110 rfl (by omega) (by decide) ?_
        refine g_run hC 2 rfl ?_
        refine g_hp ?_ (g_lvs ih ⟨rfl, rfl, sI (nI_s q), trivial⟩)
        rw [up_up]
        congr 2
        funext j
        by_cases hj : j = q
        · subst hj; rw [va_up_self, if_pos (by omega)]
        · rw [va_up_ne _ _ hj]
          by_cases h5 : j < q
          · rw [if_pos h5, if_pos (by omega)]
          · rw [if_neg h5, if_neg (by omega)]
    · refine g_run hC 3 rfl ?_
      refine g_get hC rfl F_X3_45 h0 (hV _).g100 rfl ?_
      refine g_run hC 1 rfl ?_
      refine g_top (nI (2 ^ wi)) (shl_1 wi (by omega)) ?_
      refine g_icge (tgt := 65) hC rfl (by decide) (fun _ => ?_) (fun h1 => absurd (Int32.le_refl _) h1)
      refine g_run hC 1 rfl ?_
      refine g_callV hC hN [] (c_X3_coefficients hW (hV _) hn) rfl M_X3_89 h0 (hV _).g100 rfl rfl (len_of rfl) (by decide) (by decide) ?_
      rintro r hp3 ⟨rfl, h3, h4⟩
      exact g_iret hC rfl rfl ⟨_, _, fun p hp9 => if_pos hp9, ⟨_, fun p hp9 => if_pos hp9, rfl⟩, rfl, h3, (hfm.tr (FM.up (by decide) (by decide))).tr h4⟩ (Nat.le_refl _) (Nat.le_refl _)
end
end
section
theorem lackN_lt (li : Nat) (x : Int32) : lackN li x < 3 := by
  unfold lackN
  split
  · decide
  · split <;> decide
theorem lackN_0 {li : Nat} {x : Int32} (hl : li ≤ 10) (h : lackN li x = 0) : ∃ k, k < li ∧ x = nI k := by
  unfold lackN at h
  split at h
  · exact absurd h (by decide)
  · split at h
    · rename_i hb
      exact (lineB_iff hl).mp hb
    · exact absurd h (by decide)
section
variable {l : Launch} {D : va_G} {dA ad sa : Nat → Nat} {L : List Nat} {hp : Nat → KE} {th wi an li inp : Nat} {ki fi se tr : Nat → Int32} {cl : Nat → Int64} {si st : Nat → Nat} {nu wo fr : Nat → Int64} {gt : Nat → GT} {rs : Nat → Nat → Int64}
theorem c_X3_lack (hW : KF ad L) (h : MR hp th wi an li ki fi se tr cl si st nu wo fr) (hl : li ≤ 10) (x : Int32) : KM l yX3_lack cX3_lack 2 (some .int) (rmK 1 0 0) D dA ad sa L [.ref 54, .int x] hp (fun r hp' => r = some (.int (nI (lackN li x))) ∧ hp' = hp) := by
  refine KM.of rfl ok_X3_lack (len_of rfl) hW.1.1 hW.1.2 ?_
  intro p e s m args below meth c A hC hN
  have h0 := hW.2 54 (by decide)
  refine g_run hC 1 rfl ?_
  refine g_get hC rfl F_X3_52 h0 h.g100 rfl ?_
  refine g_ifne (tgt := 11) hC rfl (by decide) (fun h1 => ?_) (fun h1 => ?_)
  · have hli : ¬ li = 0 := fun z => h1 (by rw [z]; rfl)
    refine g_run hC 3 rfl ?_
    refine g_get hC rfl F_X3_52 h0 h.g100 rfl ?_
    refine g_run hC 2 rfl ?_
    refine g_top (nI (li - 1)) (pk_sub (a := li) (b := 1) (by omega)) ?_
    refine g_callS hC hN [.int x, .int (nI 0), .int (nI (li - 1))] (c_X3_within hW hp x _ _) rfl M_X3_48 rfl (len_of rfl) (by decide) (by decide) ?_
    rintro r hp1 ⟨rfl, rfl⟩
    rw [lineM hli hl]
    cases hb : lineB li x with
    | false =>
      refine g_ifeq (tgt := 29) hC rfl (by decide) (fun _ => ?_) (fun h2 => absurd rfl h2)
      refine g_run hC 1 rfl ?_
      refine g_iret hC rfl rfl ⟨?_, rfl⟩ (Nat.le_refl _) (Nat.le_refl _)
      unfold lackN; rw [if_neg hli, if_neg (by rw [hb]; decide)]; rfl
    | true =>
      refine g_ifeq (tgt := 29) hC rfl (by decide) (fun h2 => absurd h2 (by decide)) (fun _ => ?_)
      refine g_run hC 2 rfl ?_
      refine g_iret hC rfl rfl ⟨?_, rfl⟩ (Nat.le_refl _) (Nat.le_refl _)
      unfold lackN; rw [if_neg hli, if_pos hb]; rfl
  · have hli : li = 0 := (nI_z (by omega)).mp h1
    refine g_run hC 2 rfl ?_
    refine g_iret hC rfl rfl ⟨?_, rfl⟩ (Nat.le_refl _) (Nat.le_refl _)
    unfold lackN; rw [if_pos hli]; rfl
theorem c_X3_size (hW : KF ad L) (h : MR hp th wi an li ki fi se tr cl si st nu wo fr) (hl : li ≤ 10) (x : Int32) : KM l yX3_size cX3_size 2 (some .int) (rmK 2 0 0) D dA ad sa L [.ref 54, .int x] hp
    (fun r hp' => (∃ v, r = some (.int v) ∧ (lackN li x = 0 → ∃ k, k < li ∧ x = nI k ∧ v = nI (si k))) ∧ MR hp' (lackN li x) wi an li ki fi se tr cl si st nu wo fr ∧ FM hp hp') := by
  refine KM.of rfl ok_X3_size (len_of rfl) hW.1.1 hW.1.2 ?_
  intro p e s m args below meth c A hC hN
  have h0 := hW.2 54 (by decide)
  have hlt := lackN_lt li x
  refine g_run hC 3 rfl ?_
  refine g_callV hC hN [.int x] (c_X3_lack hW h hl x) rfl M_X3_110 h0 h.g100 rfl rfl (len_of rfl) (by decide) (by decide) ?_
  rintro r hp1 ⟨rfl, rfl⟩
  refine g_putI hC rfl F_X3_41 h0 h.g100 (len_of rfl) rfl rfl ?_
  have h2 := h.obj (th2 := lackN li x) (wi2 := wi) (an2 := an) (li2 := li)
  refine g_run hC 1 rfl ?_
  refine g_get hC rfl F_X3_41 h0 h2.g100 rfl ?_
  by_cases hz : lackN li x = 0
  · obtain ⟨k, hk, hx⟩ := lackN_0 hl hz
    refine g_ifle (tgt := 20) hC rfl (by decide) (fun _ => ?_) (fun h3 => absurd (by rw [hz]; decide) h3)
    refine g_run hC 1 rfl ?_
    refine g_get hC rfl F_X3_26 h0 h2.g100 rfl ?_
    refine g_run hC 1 rfl ?_
    refine g_ild hC k rfl (hW.2 60 (by decide)) h2.g106 hx (by omega) (by decide) ?_
    exact g_iret hC rfl rfl ⟨⟨_, rfl, fun _ => ⟨k, hk, hx, rfl⟩⟩, h2, FM.up (by decide) (by decide)⟩ (Nat.le_refl _) (Nat.le_refl _)
  · refine g_ifle (tgt := 20) hC rfl (by decide) (fun h3 => ?_) (fun _ => ?_)
    · have := (nI_leI (a := lackN li x) (b := 0) (by omega) (by decide)).mp h3
      exact absurd (Nat.le_zero.mp this) hz
    · refine g_run hC 2 rfl ?_
      exact g_iret hC rfl rfl ⟨⟨_, rfl, fun z => absurd z hz⟩, h2, FM.up (by decide) (by decide)⟩ (Nat.le_refl _) (Nat.le_refl _)
theorem LN.nz {n k : Nat} {row : Nat → Int64} (hL : LN n si st nu k row) {i : Nat} (hi : i < si k) {s0 : Nat} (h : st (40 * k + i) = s0) : ¬ row s0 = 0 := by
  have := (hL.2.2.1 i hi).2.2
  rw [h] at this
  exact this
theorem LN.zr {n k : Nat} {row : Nat → Int64} (hL : LN n si st nu k row) {s0 : Nat} (hs : s0 < 512) (h : ∀ i, i < si k → ¬ st (40 * k + i) = s0) : row s0 = 0 := by
  by_cases hr : row s0 = 0
  · exact hr
  · obtain ⟨i, hi, h3⟩ := hL.2.2.2.1 s0 hs hr
    exact absurd h3 (h i hi)
theorem c_X3_monomial (hW : KF ad L) (h : MR hp th wi an li ki fi se tr cl si st nu wo fr) (hn : wi ≤ 9) (hl : li ≤ 10) (hLN : ∀ k, k < li → LN wi si st nu k (rs k)) (x y : Int32) : KM l yX3_monomial cX3_monomial 5 (some .int) (rmK 2 0 0) D dA ad sa L [.ref 54, .int x, .int y] hp
    (fun r hp' => (∃ t, MR hp' t wi an li ki fi se tr cl si st nu wo fr ∧ ((t = lackN li x ∧ ¬ t = 0 ∧ ∃ v, r = some (.int v)) ∨ (lackN li x = 0 ∧ ∃ k, k < li ∧ x = nI k ∧ ((t = 2 ∧ (¬ ∃ i, i < si k ∧ y = nI i) ∧ ∃ v, r = some (.int v)) ∨ (t = 0 ∧ ∃ i, i < si k ∧ y = nI i ∧ r = some (.int (nI (monAt (rs k) (2 ^ wi - 1) i)))))))) ∧ FM hp hp') := by
  refine KM.of rfl ok_X3_monomial (len_of rfl) hW.1.1 hW.1.2 ?_
  intro p e s m args below meth c A hC hN
  have h0 := hW.2 54 (by decide)
  have hlt := lackN_lt li x
  have hp2 := p2_lt hn
  have hp0 : 0 < 2 ^ wi := Nat.two_pow_pos wi
  refine g_run hC 3 rfl ?_
  refine g_callV hC hN [.int x] (c_X3_lack hW h hl x) rfl M_X3_110 h0 h.g100 rfl rfl (len_of rfl) (by decide) (by decide) ?_
  rintro r hp1 ⟨rfl, rfl⟩
  refine g_putI hC rfl F_X3_41 h0 h.g100 (len_of rfl) rfl rfl ?_
  have h2 := h.obj (th2 := lackN li x) (wi2 := wi) (an2 := an) (li2 := li)
  have f2 : FM hp1 (va_up hp1 54 (MObj (lackN li x) wi an li)) := FM.up (by decide) (by decide)
  have hmid : nI (2 ^ wi - 1) = cI 1 <<< (nI wi &&& 31) - nI 1 := by rw [shl_1 _ (by omega), pk_sub (by omega)]
  by_cases hz : lackN li x = 0
  · obtain ⟨k, hk, hx⟩ := lackN_0 hl hz
    rw [hz] at h2 f2
    rw [hz]
    have hLk := hLN k hk
    have hsz := hLk.1
    have hmk := monB (y := y) hsz
    refine g_run hC 2 rfl ?_
    refine g_get hC rfl F_X3_41 h0 h2.g100 rfl ?_
    refine g_ifne (tgt := 37) hC rfl (by decide) (fun h3 => absurd rfl h3) (fun _ => ?_)
    refine g_run hC 3 rfl ?_
    refine g_get hC rfl F_X3_26 h0 h2.g100 rfl ?_
    refine g_run hC 1 rfl ?_
    refine g_ild hC k rfl (hW.2 60 (by decide)) h2.g106 hx (by omega) (by decide) ?_
    refine g_run hC 2 rfl ?_
    refine g_callS hC hN [.int y, .int (nI 0), .int (nI (si k) - nI 1)] (c_X3_within hW _ y _ _) rfl M_X3_48 rfl (len_of rfl) (by decide) (by decide) ?_
    rintro r hp2 ⟨rfl, rfl⟩
    cases hb : (decide (nI 0 ≤ y) && decide (y ≤ nI (si k) - nI 1)) with
    | false =>
      refine g_ifne (tgt := 37) hC rfl (by decide) (fun h3 => absurd rfl h3) (fun _ => ?_)
      refine g_run hC 2 rfl ?_
      refine g_putI hC rfl F_X3_41 h0 h2.g100 (len_of rfl) rfl rfl ?_
      have h4 := h2.obj (th2 := 2) (wi2 := wi) (an2 := an) (li2 := li)
      refine g_run hC 4 rfl ?_
      refine g_get hC rfl F_X3_45 h0 h4.g100 rfl ?_
      refine g_run hC 3 rfl ?_
      refine g_top (nI (2 ^ wi - 1)) hmid.symm ?_
      refine g_run hC 2 rfl ?_
      refine g_iflt (tgt := 94) hC rfl (by decide) (fun h5 => absurd h5 (nI_pos (by omega))) (fun _ => ?_)
      refine g_run hC 1 rfl ?_
      refine g_get hC rfl F_X3_41 h0 h4.g100 rfl ?_
      refine g_ifne (tgt := 94) hC rfl (by decide) (fun _ => ?_) (fun h5 => absurd h5 (by decide))
      refine g_run hC 1 rfl ?_
      refine g_iret hC rfl rfl ⟨⟨2, h4, Or.inr ⟨rfl, k, hk, hx, Or.inl ⟨rfl, ?_, _, rfl⟩⟩⟩, f2.tr (FM.up (by decide) (by decide))⟩ (Nat.le_refl _) (Nat.le_refl _)
      intro z
      rw [hmk.mpr z] at hb
      cases hb
    | true =>
      obtain ⟨n0, hn0, hy⟩ := hmk.mp hb
      refine g_ifne (tgt := 37) hC rfl (by decide) (fun _ => ?_) (fun h3 => absurd h3 (by decide))
      refine g_run hC 1 rfl ?_
      refine g_get hC rfl F_X3_41 h0 h2.g100 rfl ?_
      refine g_putI hC rfl F_X3_41 h0 h2.g100 (len_of rfl) rfl rfl ?_
      have h4 := h2.obj (th2 := 0) (wi2 := wi) (an2 := an) (li2 := li)
      have f4 := f2.tr (FM.up (hp := va_up hp1 54 (MObj 0 wi an li)) (q := 54) (x := MObj 0 wi an li) (by decide) (by decide))
      refine g_run hC 4 rfl ?_
      refine g_get hC rfl F_X3_45 h0 h4.g100 rfl ?_
      refine g_run hC 3 rfl ?_
      refine g_top (nI (2 ^ wi - 1)) hmid.symm ?_
      refine g_run hC 1 rfl ?_
      generalize hH : va_up (va_up hp1 54 (MObj 0 wi an li)) 54 (MObj 0 wi an li) = hp4 at h4 f4
      generalize hRR : monAt (rs k) (2 ^ wi - 1) n0 = RR
      refine g_ind (σ := Nat × Nat) (fun x => x.1) (fun x => x.1 < 2 ^ wi ∧ x.2 < 2 ^ 31 ∧ monAt (rs k) x.1 x.2 = RR) (fun _ => hp4) (fun z => [(0, .ref 54), (1, .int x), (3, .int (nI z.2)), (4, .int (nI z.1))]) (2 ^ wi - 1, n0) ⟨by dsimp only; omega, by dsimp only; omega, hRR⟩ hH ⟨rfl, rfl, sI hy, rfl, trivial⟩ ?_
      rintro ⟨s0, n1⟩ ⟨h5, h6, h7⟩ ih
      dsimp only at h5 h6 h7 ih ⊢
      refine g_run hC 1 rfl ?_
      refine g_iflt (tgt := 94) hC rfl (by decide) (fun h8 => absurd h8 (nI_pos (by omega))) (fun _ => ?_)
      refine g_run hC 1 rfl ?_
      refine g_get hC rfl F_X3_41 h0 h4.g100 rfl ?_
      refine g_ifne (tgt := 94) hC rfl (by decide) (fun h8 => absurd rfl h8) (fun _ => ?_)
      refine g_run hC 2 rfl ?_
      refine g_top (nI k) hx ?_
      refine g_run hC 1 rfl ?_
      refine g_cutA (ι := Nat) (fun n2 => n2 < 2 ^ 31 ∧ (∀ s1, s0 = s1 + 1 → monAt (rs k) s1 n2 = RR) ∧ (s0 = 0 → RR = 0)) (fun _ => hp4) 88 (fun n2 => [(0, .ref 54), (1, .int x), (3, .int (nI n2)), (4, .int (nI s0))]) (fun _ => []) ?_ (fun nxt => ?_)
      · rintro n2 ⟨hn2, hm, hm0⟩
        refine g_run hC 2 rfl ?_
        by_cases hs : s0 = 0
        · subst hs
          refine g_run hC 1 rfl ?_
          refine g_iflt (tgt := 94) hC rfl (by decide) (fun _ => ?_) (fun h8 => absurd neg1_lt h8)
          refine g_run hC 1 rfl ?_
          refine g_iret hC rfl rfl ⟨⟨0, h4, Or.inr ⟨rfl, k, hk, hx, Or.inr ⟨rfl, n0, hn0, hy, ?_⟩⟩⟩, f4⟩ (Nat.le_refl _) (Nat.le_refl _)
          rw [hRR, hm0 rfl]; rfl
        · obtain ⟨s1, rfl⟩ : ∃ s1, s0 = s1 + 1 := ⟨s0 - 1, by omega⟩
          exact g_lvs (ih (s1, n2) ⟨by dsimp only; omega, hn2, hm s1 rfl⟩ (by dsimp only; omega)) ⟨rfl, rfl, rfl, sI (m1_pred (Nat.succ_pos _)), trivial⟩
      refine g_callV hC hN [.int (nI k), .int (nI s0)] (c_X3_find hW h4 k s0 (by omega) hsz (hLk.lt hn) (by omega)) rfl M_X3_83 h0 h4.g100 rfl rfl (len_of rfl) (by decide) (by decide) ?_
      rintro r hp5 ⟨⟨i, hi, h8, rfl⟩ | ⟨h8, rfl⟩, rfl⟩
      · have hnz := hLk.nz hi h8
        refine g_iflt (tgt := 88) hC rfl (by decide) (fun h9 => absurd h9 (nI_pos (by omega))) (fun _ => ?_)
        refine g_run hC 1 rfl ?_
        refine g_ifne (tgt := 85) hC rfl (by decide) (fun h9 => ?_) (fun h9 => ?_)
        · have hn1 : ¬ n1 = 0 := fun z => h9 (by rw [z]; rfl)
          refine g_run hC 1 rfl ?_
          refine g_lvs (nxt (n1 - 1) ⟨by omega, ?_, ?_⟩) ⟨rfl, rfl, sI (m1_pred (by omega)), rfl, trivial⟩
          · rintro s1 rfl
            simp only [monAt] at h7
            rw [if_neg hnz, if_neg hn1] at h7
            exact h7
          · rintro rfl
            rw [← h7]; rfl
        · have hn1 : n1 = 0 := (nI_z (by omega)).mp h9
          refine g_run hC 1 rfl ?_
          refine g_iret hC rfl rfl ⟨⟨0, h4, Or.inr ⟨rfl, k, hk, hx, Or.inr ⟨rfl, n0, hn0, hy, ?_⟩⟩⟩, f4⟩ (Nat.le_refl _) (Nat.le_refl _)
          rw [hRR, ← h7, hn1]
          cases s0 with
          | zero => rfl
          | succ s1 => simp only [monAt]; rw [if_neg hnz, if_pos trivial]
      · have hzr := hLk.zr (by omega) h8
        refine g_iflt (tgt := 88) hC rfl (by decide) (fun _ => ?_) (fun h9 => absurd neg1_lt h9)
        refine nxt n1 ⟨h6, ?_, ?_⟩
        · rintro s1 rfl
          simp only [monAt] at h7
          rw [if_pos hzr] at h7
          exact h7
        · rintro rfl
          rw [← h7]; rfl
  · refine g_run hC 2 rfl ?_
    refine g_get hC rfl F_X3_41 h0 h2.g100 rfl ?_
    refine g_ifne (tgt := 37) hC rfl (by decide) (fun _ => ?_) (fun h3 => absurd ((nI_z (by omega)).mp h3) hz)
    refine g_run hC 1 rfl ?_
    refine g_get hC rfl F_X3_41 h0 h2.g100 rfl ?_
    refine g_putI hC rfl F_X3_41 h0 h2.g100 (len_of rfl) rfl rfl ?_
    have h4 := h2.obj (th2 := lackN li x) (wi2 := wi) (an2 := an) (li2 := li)
    refine g_run hC 4 rfl ?_
    refine g_get hC rfl F_X3_45 h0 h4.g100 rfl ?_
    refine g_run hC 3 rfl ?_
    refine g_top (nI (2 ^ wi - 1)) hmid.symm ?_
    refine g_run hC 2 rfl ?_
    refine g_iflt (tgt := 94) hC rfl (by decide) (fun h5 => absurd h5 (nI_pos (by omega))) (fun _ => ?_)
    refine g_run hC 1 rfl ?_
    refine g_get hC rfl F_X3_41 h0 h4.g100 rfl ?_
    refine g_ifne (tgt := 94) hC rfl (by decide) (fun _ => ?_) (fun h5 => absurd ((nI_z (by omega)).mp h5) hz)
    refine g_run hC 1 rfl ?_
    exact g_iret hC rfl rfl ⟨⟨_, h4, Or.inl ⟨rfl, hz, _, rfl⟩⟩, f2.tr (FM.up (by decide) (by decide))⟩ (Nat.le_refl _) (Nat.le_refl _)
theorem c_X3_coefficient (hW : KF ad L) (h : MR hp th wi an li ki fi se tr cl si st nu wo fr) (hn : wi ≤ 9) (hl : li ≤ 10) (hLN : ∀ k, k < li → LN wi si st nu k (rs k)) (x y : Int32) : KM l yX3_coefficient cX3_coefficient 3 (some .long) (rmK 2 0 0) D dA ad sa L [.ref 54, .int x, .int y] hp
    (fun r hp' => (∃ t, MR hp' t wi an li ki fi se tr cl si st nu wo fr ∧ ((t = lackN li x ∧ ¬ t = 0 ∧ ∃ v, r = some (.long v)) ∨ (lackN li x = 0 ∧ ∃ k, k < li ∧ x = nI k ∧ ((t = 2 ∧ setB wi y = false ∧ ∃ v, r = some (.long v)) ∨ (t = 0 ∧ ∃ i, i < 2 ^ wi ∧ y = nI i ∧ r = some (.long (rs k i))))))) ∧ FM hp hp') := by
  refine KM.of rfl ok_X3_coefficient (len_of rfl) hW.1.1 hW.1.2 ?_
  intro p e s m args below meth c A hC hN
  have h0 := hW.2 54 (by decide)
  have hlt := lackN_lt li x
  have hp2 := p2_lt hn
  refine g_run hC 3 rfl ?_
  refine g_callV hC hN [.int x] (c_X3_lack hW h hl x) rfl M_X3_110 h0 h.g100 rfl rfl (len_of rfl) (by decide) (by decide) ?_
  rintro r hp1 ⟨rfl, rfl⟩
  refine g_putI hC rfl F_X3_41 h0 h.g100 (len_of rfl) rfl rfl ?_
  have h2 := h.obj (th2 := lackN li x) (wi2 := wi) (an2 := an) (li2 := li)
  have f2 : FM hp1 (va_up hp1 54 (MObj (lackN li x) wi an li)) := FM.up (by decide) (by decide)
  by_cases hz : lackN li x = 0
  · obtain ⟨k, hk, hx⟩ := lackN_0 hl hz
    rw [hz] at h2 f2
    rw [hz]
    refine g_run hC 2 rfl ?_
    refine g_get hC rfl F_X3_41 h0 h2.g100 rfl ?_
    refine g_ifne (tgt := 29) hC rfl (by decide) (fun h3 => absurd rfl h3) (fun _ => ?_)
    refine g_run hC 2 rfl ?_
    refine g_callV hC hN [.int y] (c_X3_isSet hW h2 hn y) rfl M_X3_63 h0 h2.g100 rfl rfl (len_of rfl) (by decide) (by decide) ?_
    rintro r hp2 ⟨rfl, rfl⟩
    cases hb : setB wi y with
    | false =>
      refine g_ifne (tgt := 29) hC rfl (by decide) (fun h3 => absurd rfl h3) (fun _ => ?_)
      refine g_run hC 2 rfl ?_
      refine g_putI hC rfl F_X3_41 h0 h2.g100 (len_of rfl) rfl rfl ?_
      have h4 := h2.obj (th2 := 2) (wi2 := wi) (an2 := an) (li2 := li)
      refine g_run hC 1 rfl ?_
      refine g_get hC rfl F_X3_41 h0 h4.g100 rfl ?_
      refine g_ifle (tgt := 47) hC rfl (by decide) (fun h5 => absurd h5 (by decide)) (fun _ => ?_)
      refine g_run hC 2 rfl ?_
      exact g_lret hC rfl rfl ⟨⟨2, h4, Or.inr ⟨rfl, k, hk, hx, Or.inl ⟨rfl, rfl, _, rfl⟩⟩⟩, f2.tr (FM.up (by decide) (by decide))⟩ (Nat.le_refl _) (Nat.le_refl _)
    | true =>
      obtain ⟨i, hi, hy⟩ := (setB_iff hn).mp hb
      refine g_ifne (tgt := 29) hC rfl (by decide) (fun _ => ?_) (fun h3 => absurd h3 (by decide))
      refine g_run hC 1 rfl ?_
      refine g_get hC rfl F_X3_41 h0 h2.g100 rfl ?_
      refine g_putI hC rfl F_X3_41 h0 h2.g100 (len_of rfl) rfl rfl ?_
      have h4 := h2.obj (th2 := 0) (wi2 := wi) (an2 := an) (li2 := li)
      refine g_run hC 1 rfl ?_
      refine g_get hC rfl F_X3_41 h0 h4.g100 rfl ?_
      refine g_ifle (tgt := 47) hC rfl (by decide) (fun _ => ?_) (fun h5 => absurd (by decide) h5)
      refine g_run hC 2 rfl ?_
      refine g_top (nI k) hx ?_
      refine g_run hC 1 rfl ?_
      refine g_top (nI i) hy ?_
      refine g_callV hC hN [.int (nI k), .int (nI i)] (c_X3_has hW h4 hn k i (rs k) (by omega) (hLN k hk) (by omega)) rfl M_X3_113 h0 h4.g100 rfl rfl (len_of rfl) (by decide) (by decide) ?_
      rintro r hp5 ⟨rfl, rfl⟩
      exact g_lret hC rfl rfl ⟨⟨0, h4, Or.inr ⟨rfl, k, hk, hx, Or.inr ⟨rfl, i, hi, hy, rfl⟩⟩⟩, f2.tr (FM.up (by decide) (by decide))⟩ (Nat.le_refl _) (Nat.le_refl _)
  · refine g_run hC 2 rfl ?_
    refine g_get hC rfl F_X3_41 h0 h2.g100 rfl ?_
    refine g_ifne (tgt := 29) hC rfl (by decide) (fun _ => ?_) (fun h3 => absurd ((nI_z (by omega)).mp h3) hz)
    refine g_run hC 1 rfl ?_
    refine g_get hC rfl F_X3_41 h0 h2.g100 rfl ?_
    refine g_putI hC rfl F_X3_41 h0 h2.g100 (len_of rfl) rfl rfl ?_
    have h4 := h2.obj (th2 := lackN li x) (wi2 := wi) (an2 := an) (li2 := li)
    refine g_run hC 1 rfl ?_
    refine g_get hC rfl F_X3_41 h0 h4.g100 rfl ?_
    refine g_ifle (tgt := 47) hC rfl (by decide) (fun h3 => ?_) (fun _ => ?_)
    · have := (nI_leI (a := lackN li x) (b := 0) (by omega) (by decide)).mp h3
      exact absurd (Nat.le_zero.mp this) hz
    · refine g_run hC 2 rfl ?_
      exact g_lret hC rfl rfl ⟨⟨_, h4, Or.inl ⟨rfl, hz, _, rfl⟩⟩, f2.tr (FM.up (by decide) (by decide))⟩ (Nat.le_refl _) (Nat.le_refl _)
end
end
section
section
variable {l : Launch} {D : va_G} {dA ad sa : Nat → Nat} {L : List Nat} {hp : Nat → KE} {th wi an li inp : Nat} {ki fi se tr : Nat → Int32} {cl : Nat → Int64} {si st : Nat → Nat} {nu wo fr : Nat → Int64} {gt : Nat → GT} {rs : Nat → Nat → Int64}
theorem c_X3_many (hW : KF ad L) (hp : Nat → KE) (s0 : Nat) (hs : s0 < 512) : KM l yX3_many cX3_many 3 (some .int) (rmK 0 0 0) D dA ad sa L [.int (nI s0)] hp (fun r hp' => r = some (.int (nI (popN s0))) ∧ hp' = hp) := by
  refine KM.of rfl ok_X3_many (len_of rfl) hW.1.1 hW.1.2 ?_
  intro p e s m args below meth c A hC hN
  refine g_run hC 4 rfl ?_
  refine g_loop 0 9 (fun _ => hp) (fun k => [(0, .int (nI s0)), (1, .int (nI (mN s0 k))), (2, .int (nI k))]) (Nat.zero_le _) rfl ⟨rfl, rfl, rfl, trivial⟩ ?_ ?_
  · intro k _ hk ih
    refine g_run hC 2 rfl ?_
    refine g_icge (tgt := 24) hC rfl (by decide) (fun h1 => ?_) (fun _ => ?_)
    · exact absurd ((nI_leI (a := 9) (b := k) (by decide) (by omega)).mp h1) (by omega)
    · refine g_run hC 10 rfl ?_
      refine g_lvs ih ⟨rfl, sI ?_, sI (nI_s k), trivial⟩
      show nI (mN s0 k) + (nI s0 >>> (nI k &&& 31) &&& nI 1) = _
      rw [shr_p (by omega) (by omega), nI_and, Nat.and_one_is_mod, nI_add]
      rfl
  · refine g_run hC 2 rfl ?_
    refine g_icge (tgt := 24) hC rfl (by decide) (fun _ => ?_) (fun h1 => absurd (Int32.le_refl _) h1)
    refine g_run hC 1 rfl ?_
    refine g_iret hC rfl rfl ⟨?_, rfl⟩ (Nat.le_refl _) (Nat.le_refl _)
    rw [← mN_pop]
theorem c_X3_witness (hW : KF ad L) (h : MR hp th wi an li ki fi se tr cl si st nu wo fr) (hn : wi ≤ 9) (hl : li ≤ 10) (hLN : ∀ k, k < li → LN wi si st nu k (rs k)) : KM l yX3_witness cX3_witness 3 (some .int) (rmK 1 0 0) D dA ad sa L [.ref 54] hp
    (fun r hp' => (∃ t, MR hp' t wi an li ki fi se tr cl si st nu wo fr ∧ ((li = 0 ∧ t = 1 ∧ ∃ v, r = some (.int v)) ∨ (¬ li = 0 ∧ si (li - 1) = 0 ∧ t = 2 ∧ ∃ v, r = some (.int v)) ∨ (¬ li = 0 ∧ ¬ si (li - 1) = 0 ∧ t = 0 ∧ r = some (.int (bV (wtN (rs (li - 1)) (2 ^ wi))))))) ∧ FM hp hp') := by
  refine KM.of rfl ok_X3_witness (len_of rfl) hW.1.1 hW.1.2 ?_
  intro p e s m args below meth c A hC hN
  have h0 := hW.2 54 (by decide)
  have hp2 := p2_lt hn
  have hp0 : 0 < 2 ^ wi := Nat.two_pow_pos wi
  refine g_cutA (ι := Nat) (fun t => (li = 0 ∧ t = 1) ∨ (¬ li = 0 ∧ si (li - 1) = 0 ∧ t = 2)) (fun t => va_up hp 54 (MObj t wi an li)) 34 (fun _ => [(0, .ref 54)]) (fun _ => []) ?_ (fun bad => ?_)
  · intro t ht
    have h2 := h.obj (th2 := t) (wi2 := wi) (an2 := an) (li2 := li)
    have ht0 : 0 < t ∧ t < 3 := by omega
    refine g_run hC 4 rfl ?_
    refine g_run hC 3 rfl ?_
    refine g_get hC rfl F_X3_45 h0 h2.g100 rfl ?_
    refine g_run hC 1 rfl ?_
    refine g_top (nI (2 ^ wi)) (shl_1 wi (by omega)) ?_
    refine g_icge (tgt := 96) hC rfl (by decide) (fun h1 => ?_) (fun _ => ?_)
    · exact absurd ((nI_leI (a := 2 ^ wi) (b := 0) (by omega) (by omega)).mp h1) (by omega)
    refine g_run hC 1 rfl ?_
    refine g_get hC rfl F_X3_41 h0 h2.g100 rfl ?_
    refine g_ifne (tgt := 96) hC rfl (by decide) (fun _ => ?_) (fun h3 => absurd ((nI_z (by omega)).mp h3) (by omega))
    refine g_run hC 1 rfl ?_
    refine g_get hC rfl F_X3_41 h0 h2.g100 rfl ?_
    refine g_ifle (tgt := 107) hC rfl (by decide) (fun h3 => ?_) (fun _ => ?_)
    · have := (nI_leI (a := t) (b := 0) (by omega) (by decide)).mp h3
      omega
    · refine g_run hC 2 rfl ?_
      refine g_iret hC rfl rfl ⟨⟨t, h2, ?_⟩, FM.up (by decide) (by decide)⟩ (Nat.le_refl _) (Nat.le_refl _)
      rcases ht with ⟨q1, q2⟩ | ⟨q1, q2, q3⟩
      · exact Or.inl ⟨q1, q2, _, rfl⟩
      · exact Or.inr (Or.inl ⟨q1, q2, q3, _, rfl⟩)
  refine g_run hC 2 rfl ?_
  refine g_get hC rfl F_X3_52 h0 h.g100 rfl ?_
  refine g_ifne (tgt := 12) hC rfl (by decide) (fun h1 => ?_) (fun h1 => ?_)
  · have hli : ¬ li = 0 := fun z => h1 (by rw [z]; rfl)
    have hLk := hLN (li - 1) (by omega)
    have hsz := hLk.1
    refine g_run hC 1 rfl ?_
    refine g_get hC rfl F_X3_26 h0 h.g100 rfl ?_
    refine g_run hC 1 rfl ?_
    refine g_get hC rfl F_X3_52 h0 h.g100 rfl ?_
    refine g_run hC 2 rfl ?_
    refine g_ild hC (li - 1) rfl (hW.2 60 (by decide)) h.g106 (pk_sub (a := li) (b := 1) (by omega)) (by omega) (by decide) ?_
    refine g_ifne (tgt := 30) hC rfl (by decide) (fun h2 => ?_) (fun h2 => ?_)
    · have hs0 : ¬ si (li - 1) = 0 := fun z => h2 (by show nI (si (li - 1)) = 0; rw [z]; rfl)
      refine g_run hC 1 rfl ?_
      refine g_putI hC rfl F_X3_41 h0 h.g100 (len_of rfl) rfl rfl ?_
      have h3 := h.obj (th2 := 0) (wi2 := wi) (an2 := an) (li2 := li)
      have f3 : FM hp (va_up hp 54 (MObj 0 wi an li)) := FM.up (by decide) (by decide)
      refine g_run hC 4 rfl ?_
      generalize hH : va_up hp 54 (MObj 0 wi an li) = hp4 at h3 f3
      refine g_loop 0 (2 ^ wi) (fun _ => hp4) (fun k => [(0, .ref 54), (1, .int (bV (wtN (rs (li - 1)) k))), (2, .int (nI k))]) (Nat.zero_le _) hH ⟨rfl, rfl, rfl, trivial⟩ ?_ ?_
      · intro k _ hk ih
        refine g_run hC 3 rfl ?_
        refine g_get hC rfl F_X3_45 h0 h3.g100 rfl ?_
        refine g_run hC 1 rfl ?_
        refine g_top (nI (2 ^ wi)) (shl_1 wi (by omega)) ?_
        refine g_icge (tgt := 96) hC rfl (by decide) (fun h1 => ?_) (fun _ => ?_)
        · exact absurd ((nI_leI (a := 2 ^ wi) (b := k) (by omega) (by omega)).mp h1) (by omega)
        refine g_run hC 1 rfl ?_
        refine g_get hC rfl F_X3_41 h0 h3.g100 rfl ?_
        refine g_ifne (tgt := 96) hC rfl (by decide) (fun h8 => absurd rfl h8) (fun _ => ?_)
        refine g_cutA (ι := Unit) (fun _ => True) (fun _ => hp4) 89 (fun _ => [(0, .ref 54), (2, .int (nI k))]) (fun _ => [.int (bV (wtN (rs (li - 1)) (k + 1)))]) ?_ (fun t89 => ?_)
        · intro _ _
          refine g_run hC 3 rfl ?_
          exact g_lvs ih ⟨rfl, rfl, sI (nI_s k), trivial⟩
        refine g_run hC 2 rfl ?_
        refine g_get hC rfl F_X3_52 h0 h3.g100 rfl ?_
        refine g_run hC 2 rfl ?_
        refine g_top (nI (li - 1)) (pk_sub (a := li) (b := 1) (by omega)) ?_
        refine g_run hC 1 rfl ?_
        refine g_callV hC hN [.int (nI (li - 1)), .int (nI k)] (c_X3_find hW h3 (li - 1) k (by omega) hsz (hLk.lt hn) (by omega)) rfl M_X3_83 h0 h3.g100 rfl rfl (len_of rfl) (by decide) (by decide) ?_
        rintro r hp5 ⟨⟨i, hi, h8, rfl⟩ | ⟨h8, rfl⟩, rfl⟩
        · have hnz := hLk.nz hi h8
          simp only [wtN] at t89
          rw [if_neg hnz] at t89
          refine g_iflt (tgt := 88) hC rfl (by decide) (fun h9 => absurd h9 (nI_pos (by omega))) (fun _ => ?_)
          refine g_run hC 1 rfl ?_
          cases hw : wtN (rs (li - 1)) k with
          | none =>
            rw [hw] at t89
            refine g_iflt (tgt := 84) hC rfl (by decide) (fun _ => ?_) (fun h9 => absurd neg1_lt h9)
            refine g_run hC 2 rfl ?_
            exact g_lvs (t89 () trivial) ⟨rfl, rfl, trivial⟩
          | some b =>
            rw [hw] at t89
            have hb := wtN_lt hw
            refine g_iflt (tgt := 84) hC rfl (by decide) (fun h9 => absurd h9 (nI_pos (n := b) (by omega))) (fun _ => ?_)
            refine g_run hC 1 rfl ?_
            refine g_callS hC hN [.int (nI k)] (c_X3_many hW hp5 k (by omega)) rfl M_X3_123 rfl (len_of rfl) (by decide) (by decide) ?_
            rintro r hp6 ⟨rfl, rfl⟩
            refine g_run hC 1 rfl ?_
            refine g_callS hC hN [.int (nI b)] (c_X3_many hW hp6 b (by omega)) rfl M_X3_123 rfl (len_of rfl) (by decide) (by decide) ?_
            rintro r hp7 ⟨rfl, rfl⟩
            have q1 := mN_le k 9
            have q2 := mN_le b 9
            rw [mN_pop] at q1 q2
            dsimp only at t89
            refine g_icge (tgt := 88) hC rfl (by decide) (fun h9 => ?_) (fun h9 => ?_)
            · have h10 := (nI_leI (a := popN b) (b := popN k) (by omega) (by omega)).mp h9
              rw [if_neg (by omega)] at t89
              refine g_run hC 1 rfl ?_
              exact g_lvs (t89 () trivial) ⟨rfl, rfl, trivial⟩
            · have h10 : ¬ popN b ≤ popN k := fun z => h9 ((nI_leI (a := popN b) (b := popN k) (by omega) (by omega)).mpr z)
              rw [if_pos (by omega)] at t89
              refine g_run hC 2 rfl ?_
              exact g_lvs (t89 () trivial) ⟨rfl, rfl, trivial⟩
        · have hzr := hLk.zr (by omega) h8
          simp only [wtN] at t89
          rw [if_pos hzr] at t89
          refine g_iflt (tgt := 88) hC rfl (by decide) (fun _ => ?_) (fun h9 => absurd neg1_lt h9)
          refine g_run hC 1 rfl ?_
          exact g_lvs (t89 () trivial) ⟨rfl, rfl, trivial⟩
      · refine g_run hC 3 rfl ?_
        refine g_get hC rfl F_X3_45 h0 h3.g100 rfl ?_
        refine g_run hC 1 rfl ?_
        refine g_top (nI (2 ^ wi)) (shl_1 wi (by omega)) ?_
        refine g_icge (tgt := 96) hC rfl (by decide) (fun _ => ?_) (fun h1 => absurd (Int32.le_refl _) h1)
        refine g_run hC 1 rfl ?_
        refine g_get hC rfl F_X3_41 h0 h3.g100 rfl ?_
        refine g_ifle (tgt := 107) hC rfl (by decide) (fun _ => ?_) (fun h5 => absurd (by decide) h5)
        refine g_run hC 1 rfl ?_
        exact g_iret hC rfl rfl ⟨⟨0, h3, Or.inr (Or.inr ⟨hli, hs0, rfl, rfl⟩)⟩, f3⟩ (Nat.le_refl _) (Nat.le_refl _)
    · have hs0 : si (li - 1) = 0 := (nI_z (by omega)).mp h2
      refine g_run hC 2 rfl ?_
      refine g_putI hC rfl F_X3_41 h0 h.g100 (len_of rfl) rfl rfl ?_
      exact bad 2 (Or.inr ⟨hli, hs0, rfl⟩)
  · have hli : li = 0 := (nI_z (by omega)).mp h1
    refine g_run hC 2 rfl ?_
    refine g_putI hC rfl F_X3_41 h0 h.g100 (len_of rfl) rfl rfl ?_
    exact bad 1 (Or.inl ⟨hli, rfl⟩)
theorem c_X3_clear (hW : KF ad L) (h : MR hp th wi an li ki fi se tr cl si st nu wo fr) : KM l yX3_clear cX3_clear 3 (some .int) (rmK 0 0 0) D dA ad sa L [.ref 54] hp
    (fun r hp' => r = some (.int (nI wi)) ∧ MR hp' 0 0 0 0 ki fi se tr (fun j => if j < 512 then 0 else cl j) si st nu wo fr ∧ FM hp hp') := by
  refine KM.of rfl ok_X3_clear (len_of rfl) hW.1.1 hW.1.2 ?_
  intro p e s m args below meth c A hC hN
  have h0 := hW.2 54 (by decide)
  have h105 := hW.2 59 (by decide)
  refine g_run hC 2 rfl ?_
  refine g_putI hC rfl F_X3_41 h0 h.g100 (len_of rfl) rfl rfl ?_
  have h2 := h.obj (th2 := 0) (wi2 := wi) (an2 := an) (li2 := li)
  refine g_run hC 1 rfl ?_
  refine g_get hC rfl F_X3_45 h0 h2.g100 rfl ?_
  refine g_run hC 3 rfl ?_
  refine g_putI hC rfl F_X3_45 h0 h2.g100 (len_of rfl) rfl rfl ?_
  have h3 := h2.obj (th2 := 0) (wi2 := 0) (an2 := an) (li2 := li)
  refine g_run hC 2 rfl ?_
  refine g_putI hC rfl F_X3_80 h0 h3.g100 (len_of rfl) rfl rfl ?_
  have h4 := h3.obj (th2 := 0) (wi2 := 0) (an2 := 0) (li2 := li)
  refine g_run hC 2 rfl ?_
  refine g_putI hC rfl F_X3_52 h0 h4.g100 (len_of rfl) rfl rfl ?_
  have h5 := h4.obj (th2 := 0) (wi2 := 0) (an2 := 0) (li2 := 0)
  have f5 : FM hp (va_up (va_up (va_up (va_up hp 54 (MObj 0 wi an li)) 54 (MObj 0 0 an li)) 54 (MObj 0 0 0 li)) 54 (MObj 0 0 0 0)) := (((FM.up (by decide) (by decide)).tr (FM.up (by decide) (by decide))).tr (FM.up (by decide) (by decide))).tr (FM.up (by decide) (by decide))
  generalize hH : va_up (va_up (va_up (va_up hp 54 (MObj 0 wi an li)) 54 (MObj 0 0 an li)) 54 (MObj 0 0 0 li)) 54 (MObj 0 0 0 0) = hp5 at h5 f5
  refine g_run hC 2 rfl ?_
  have hU : ∀ w9 : Nat → Int64, MR (va_up hp5 59 (kJ 512 w9)) 0 0 0 0 ki fi se tr w9 si st nu wo fr := fun w9 => h5.s_cl
  refine g_loop 0 512 (fun q => va_up hp5 59 (kJ 512 (fun j => if j < q then 0 else cl j))) (fun q => [(0, .ref 54), (1, .int (nI wi)), (2, .int (nI q))]) (Nat.zero_le _) ?_ ⟨rfl, rfl, rfl, trivial⟩ ?_ ?_
  · rw [show (fun j => if j < 0 then 0 else cl j) = cl from by funext j; simp]
    exact Eq.trans hH (up_same h5.g105).symm
  · intro q _ hq ih
    refine g_run hC 2 rfl ?_
    refine g_icge (tgt := 47) hC rfl (by decide) (fun h1 => ?_) (fun _ => ?_)
    · exact absurd ((nI_leI (a := 512) (b := q) (by decide) (by omega)).mp h1) (by omega)
    · refine g_run hC 1 rfl ?_
      refine g_get hC rfl F_X3_22 h0 (hU _).g100 rfl ?_
      refine g_run hC 2 rfl ?_
      refine g_lst hC q rfl h105 (hU _).g105 rfl (by omega) (by decide) ?_
      refine g_run hC 2 rfl ?_
      refine g_hp ?_ (g_lvs ih ⟨rfl, rfl, sI (nI_s q), trivial⟩)
      rw [up_up]
      congr 2
      funext j
      by_cases hj : j = q
      · subst hj; rw [va_up_self, if_pos (by omega)]; rfl
      · rw [va_up_ne _ _ hj]
        by_cases h5 : j < q
        · rw [if_pos h5, if_pos (by omega)]
        · rw [if_neg h5, if_neg (by omega)]
  · refine g_run hC 2 rfl ?_
    refine g_icge (tgt := 47) hC rfl (by decide) (fun _ => ?_) (fun h1 => absurd (Int32.le_refl _) h1)
    refine g_run hC 1 rfl ?_
    exact g_iret hC rfl rfl ⟨rfl, hU _, f5.tr (FM.up (by decide) (by decide))⟩ (Nat.le_refl _) (Nat.le_refl _)
end
end
section
theorem sJo {x y : Int64} (h : x = y) : some (Value.long x) = some (Value.long y) := by rw [h]
section
variable {si st si2 st2 : Nat → Nat} {nu nu2 : Nat → Int64} {n k : Nat} {row : Nat → Int64}
theorem LN.cg (hL : LN n si st nu k row) (h1 : si2 k = si k) (h2 : ∀ j, j < 40 → st2 (40 * k + j) = st (40 * k + j)) (h3 : ∀ j, j < 40 → nu2 (40 * k + j) = nu (40 * k + j)) : LN n si2 st2 nu2 k row := by
  obtain ⟨a, b, c, d, e⟩ := hL
  refine ⟨by rw [h1]; exact a, by rw [h1]; exact b, ?_, ?_, ?_⟩
  · intro i hi
    rw [h1] at hi
    rw [h2 i (by omega), h3 i (by omega)]
    exact c i hi
  · intro s hs hr
    obtain ⟨i, hi, q⟩ := d s hs hr
    exact ⟨i, by rw [h1]; exact hi, by rw [h2 i (by omega)]; exact q⟩
  · intro i j hi hj q
    rw [h1] at hi hj
    rw [h2 i (by omega), h2 j (by omega)] at q
    exact e i j hi hj q
theorem LN.set {i0 s0 : Nat} {v : Int64} (hL : LN n si st nu k row) (hi0 : i0 < si k) (hs : st (40 * k + i0) = s0) (hs5 : s0 < 512) (hv : ¬ v = 0) : LN n si st (va_up nu (40 * k + i0) v) k (va_up row s0 v) := by
  have hnz := hL.nz hi0 hs
  obtain ⟨a, b, c, d, e⟩ := hL
  have hc := cnt_up (f := row) (v := v) hs5
  rw [if_neg hnz, if_neg hv] at hc
  refine ⟨a, by omega, ?_, ?_, e⟩
  · intro i hi
    by_cases h : i = i0
    · subst h
      rw [hs, va_up_self, va_up_self]
      exact ⟨by rw [← hs]; exact (c i hi).1, rfl, hv⟩
    · have h2 : ¬ st (40 * k + i) = s0 := fun z => h (e i i0 hi hi0 (z.trans hs.symm))
      rw [va_up_ne _ _ (show 40 * k + i ≠ 40 * k + i0 by omega), va_up_ne _ _ h2]
      exact c i hi
  · intro s hs2 hr
    by_cases h : s = s0
    · exact ⟨i0, hi0, hs.trans h.symm⟩
    · rw [va_up_ne _ _ h] at hr
      exact d s hs2 hr
theorem LN.del {i0 s0 : Nat} (hL : LN n si st nu k row) (hi0 : i0 < si k) (hs : st (40 * k + i0) = s0) (hs5 : s0 < 512) (h1 : si2 k = si k - 1) (h2 : ∀ j, j < si k - 1 → j ≠ i0 → st2 (40 * k + j) = st (40 * k + j) ∧ nu2 (40 * k + j) = nu (40 * k + j)) (h3 : i0 < si k - 1 → st2 (40 * k + i0) = st (40 * k + (si k - 1)) ∧ nu2 (40 * k + i0) = nu (40 * k + (si k - 1))) : LN n si2 st2 nu2 k (va_up row s0 0) := by
  have hnz := hL.nz hi0 hs
  obtain ⟨a, b, c, d, e⟩ := hL
  have hc := cnt_up (f := row) (v := 0) hs5
  rw [if_neg hnz, if_pos rfl] at hc
  have key : ∀ i, i < si k → i ≠ i0 → ¬ st (40 * k + i) = s0 := fun i hi h z => h (e i i0 hi hi0 (z.trans hs.symm))
  refine ⟨by omega, by omega, ?_, ?_, ?_⟩
  · intro i hi
    rw [h1] at hi
    by_cases h : i = i0
    · subst h
      obtain ⟨q1, q2⟩ := h3 hi
      have h4 := key (si k - 1) (by omega) (by omega)
      rw [q1, q2, va_up_ne _ _ h4]
      exact c (si k - 1) (by omega)
    · obtain ⟨q1, q2⟩ := h2 i hi h
      rw [q1, q2, va_up_ne _ _ (key i (by omega) h)]
      exact c i (by omega)
  · intro s hs2 hr
    by_cases h : s = s0
    · subst h; rw [va_up_self] at hr; exact absurd rfl hr
    · rw [va_up_ne _ _ h] at hr
      obtain ⟨i, hi, q⟩ := d s hs2 hr
      have hii : i ≠ i0 := fun z => h (by rw [← q, z, hs])
      by_cases hm : i = si k - 1
      · have h5 : i0 < si k - 1 := by omega
        exact ⟨i0, by rw [h1]; exact h5, by rw [(h3 h5).1, ← hm]; exact q⟩
      · exact ⟨i, by rw [h1]; omega, by rw [(h2 i (by omega) hii).1]; exact q⟩
  · intro i j hi hj q
    rw [h1] at hi hj
    by_cases hA : i = i0
    · by_cases hB : j = i0
      · rw [hA, hB]
      · subst hA
        rw [(h3 hi).1, (h2 j hj hB).1] at q
        have := e _ _ (by omega) (by omega) q
        omega
    · by_cases hB : j = i0
      · subst hB
        rw [(h3 hj).1, (h2 i hi hA).1] at q
        have := e _ _ (by omega) (by omega) q
        omega
      · rw [(h2 i hi hA).1, (h2 j hj hB).1] at q
        exact e i j (by omega) (by omega) q
theorem LN.app {s0 : Nat} {v : Int64} (hL : LN n si st nu k row) (hf : ∀ i, i < si k → ¬ st (40 * k + i) = s0) (hsn : s0 < 2 ^ n) (hs5 : s0 < 512) (hv : ¬ v = 0) (h40 : si k < 40) (h1 : si2 k = si k + 1) (h2 : ∀ j, j < si k → st2 (40 * k + j) = st (40 * k + j) ∧ nu2 (40 * k + j) = nu (40 * k + j)) (h3 : st2 (40 * k + si k) = s0 ∧ nu2 (40 * k + si k) = v) : LN n si2 st2 nu2 k (va_up row s0 v) := by
  have hzr := hL.zr hs5 hf
  obtain ⟨a, b, c, d, e⟩ := hL
  have hc := cnt_up (f := row) (v := v) hs5
  rw [if_pos hzr, if_neg hv] at hc
  refine ⟨by omega, by omega, ?_, ?_, ?_⟩
  · intro i hi
    rw [h1] at hi
    by_cases h : i = si k
    · subst h
      rw [h3.1, h3.2, va_up_self]
      exact ⟨hsn, rfl, hv⟩
    · rw [(h2 i (by omega)).1, (h2 i (by omega)).2, va_up_ne _ _ (hf i (by omega))]
      exact c i (by omega)
  · intro s hs2 hr
    by_cases h : s = s0
    · exact ⟨si k, by omega, h3.1.trans h.symm⟩
    · rw [va_up_ne _ _ h] at hr
      obtain ⟨i, hi, q⟩ := d s hs2 hr
      exact ⟨i, by omega, (h2 i hi).1.trans q⟩
  · intro i j hi hj q
    rw [h1] at hi hj
    by_cases hA : i = si k
    · by_cases hB : j = si k
      · rw [hA, hB]
      · subst hA
        rw [h3.1, (h2 j (by omega)).1] at q
        exact absurd q.symm (hf j (by omega))
    · by_cases hB : j = si k
      · subst hB
        rw [h3.1, (h2 i (by omega)).1] at q
        exact absurd q (hf i (by omega))
      · rw [(h2 i (by omega)).1, (h2 j (by omega)).1] at q
        exact e i j (by omega) (by omega) q
/-- only line k has changed -/
def OL (si st : Nat → Nat) (nu : Nat → Int64) (si2 st2 : Nat → Nat) (nu2 : Nat → Int64) (k : Nat) : Prop := ∀ q, q ≠ k → si2 q = si q ∧ (∀ j, j < 40 → st2 (40 * q + j) = st (40 * q + j)) ∧ (∀ j, j < 40 → nu2 (40 * q + j) = nu (40 * q + j))
theorem OL.ln {q : Nat} (h : OL si st nu si2 st2 nu2 k) (hq : q ≠ k) (hL : LN n si st nu q row) : LN n si2 st2 nu2 q row := hL.cg (h q hq).1 (h q hq).2.1 (h q hq).2.2
end
section
variable {l : Launch} {D : va_G} {dA ad sa : Nat → Nat} {L : List Nat} {hp : Nat → KE} {th wi an li inp : Nat} {ki fi se tr : Nat → Int32} {cl : Nat → Int64} {si st : Nat → Nat} {nu wo fr : Nat → Int64} {gt : Nat → GT} {rs : Nat → Nat → Int64}
theorem c_X3_spoil (hW : KF ad L) (h : MR hp th wi an li ki fi se tr cl si st nu wo fr) (hn : wi ≤ 9) (hl : li ≤ 10) (hLN : ∀ k, k < li → LN wi si st nu k (rs k)) (x y z : Int32) : KM l yX3_spoil cX3_spoil 7 (some .long) (rmK 2 0 0) D dA ad sa L [.ref 54, .int x, .int y, .int z] hp
    (fun r hp' => (∃ t si2 st2 nu2, MR hp' t wi an li ki fi se tr cl si2 st2 nu2 wo fr ∧ ((t = lackN li x ∧ ¬ t = 0 ∧ (∃ v, r = some (.long v)) ∧ si2 = si ∧ st2 = st ∧ nu2 = nu) ∨ (lackN li x = 0 ∧ ∃ k, k < li ∧ x = nI k ∧ ((t = 2 ∧ setB wi y = false ∧ (∃ v, r = some (.long v)) ∧ si2 = si ∧ st2 = st ∧ nu2 = nu) ∨ (∃ i, i < 2 ^ wi ∧ y = nI i ∧ ((t = 3 ∧ rs k i = 0 ∧ ¬ rs k i + z.toInt64 = 0 ∧ si k = 40 ∧ (∃ v, r = some (.long v)) ∧ si2 = si ∧ st2 = st ∧ nu2 = nu) ∨ (t = 0 ∧ ¬ (rs k i = 0 ∧ ¬ rs k i + z.toInt64 = 0 ∧ si k = 40) ∧ r = some (.long (rs k i + z.toInt64)) ∧ LN wi si2 st2 nu2 k (va_up (rs k) i (rs k i + z.toInt64)) ∧ OL si st nu si2 st2 nu2 k))))))) ∧ FM hp hp') := by
  refine KM.of rfl ok_X3_spoil (len_of rfl) hW.1.1 hW.1.2 ?_
  intro p e s m args below meth c A hC hN
  have h0 := hW.2 54 (by decide)
  have hlt := lackN_lt li x
  have hp2 := p2_lt hn
  refine g_run hC 3 rfl ?_
  refine g_callV hC hN [.int x] (c_X3_lack hW h hl x) rfl M_X3_110 h0 h.g100 rfl rfl (len_of rfl) (by decide) (by decide) ?_
  rintro r hp1 ⟨rfl, rfl⟩
  refine g_putI hC rfl F_X3_41 h0 h.g100 (len_of rfl) rfl rfl ?_
  have h2 := h.obj (th2 := lackN li x) (wi2 := wi) (an2 := an) (li2 := li)
  have f2 : FM hp1 (va_up hp1 54 (MObj (lackN li x) wi an li)) := FM.up (by decide) (by decide)
  by_cases hz : lackN li x = 0
  · obtain ⟨k, hk, rfl⟩ := lackN_0 hl hz
    rw [hz] at h2 f2
    rw [hz]
    refine g_run hC 2 rfl ?_
    refine g_get hC rfl F_X3_41 h0 h2.g100 rfl ?_
    refine g_ifne (tgt := 29) hC rfl (by decide) (fun h3 => absurd rfl h3) (fun _ => ?_)
    refine g_run hC 2 rfl ?_
    refine g_callV hC hN [.int y] (c_X3_isSet hW h2 hn y) rfl M_X3_63 h0 h2.g100 rfl rfl (len_of rfl) (by decide) (by decide) ?_
    rintro r hp2 ⟨rfl, rfl⟩
    cases hb : setB wi y with
    | false =>
      refine g_ifne (tgt := 29) hC rfl (by decide) (fun h3 => absurd rfl h3) (fun _ => ?_)
      refine g_run hC 2 rfl ?_
      refine g_putI hC rfl F_X3_41 h0 h2.g100 (len_of rfl) rfl rfl ?_
      have h4 := h2.obj (th2 := 2) (wi2 := wi) (an2 := an) (li2 := li)
      refine g_run hC 1 rfl ?_
      refine g_get hC rfl F_X3_41 h0 h4.g100 rfl ?_
      refine g_ifle (tgt := 45) hC rfl (by decide) (fun h5 => absurd h5 (by decide)) (fun _ => ?_)
      refine g_run hC 1 rfl ?_
      exact g_lret hC rfl rfl ⟨⟨2, si, st, nu, h4, Or.inr ⟨rfl, k, hk, rfl, Or.inl ⟨rfl, rfl, ⟨_, rfl⟩, rfl, rfl, rfl⟩⟩⟩, f2.tr (FM.up (by decide) (by decide))⟩ (Nat.le_refl _) (Nat.le_refl _)
    | true =>
      obtain ⟨i, hi, rfl⟩ := (setB_iff hn).mp hb
      have hi5 : i < 512 := by omega
      have hLk := hLN k hk
      have hsz := hLk.1
      refine g_ifne (tgt := 29) hC rfl (by decide) (fun _ => ?_) (fun h3 => absurd h3 (by decide))
      refine g_run hC 1 rfl ?_
      refine g_get hC rfl F_X3_41 h0 h2.g100 rfl ?_
      refine g_putI hC rfl F_X3_41 h0 h2.g100 (len_of rfl) rfl rfl ?_
      have h4 := h2.obj (th2 := 0) (wi2 := wi) (an2 := an) (li2 := li)
      have f4 := f2.tr (FM.up (hp := va_up hp1 54 (MObj 0 wi an li)) (q := 54) (x := MObj 0 wi an li) (by decide) (by decide))
      refine g_run hC 1 rfl ?_
      refine g_get hC rfl F_X3_41 h0 h4.g100 rfl ?_
      refine g_ifle (tgt := 45) hC rfl (by decide) (fun _ => ?_) (fun h5 => absurd (by decide) h5)
      refine g_run hC 3 rfl ?_
      refine g_callV hC hN [.int (nI k), .int (nI i)] (c_X3_has hW h4 hn k i (rs k) (by omega) hLk (by omega)) rfl M_X3_113 h0 h4.g100 rfl rfl (len_of rfl) (by decide) (by decide) ?_
      rintro r hp5 ⟨rfl, rfl⟩
      refine g_run hC 7 rfl ?_
      generalize hv : rs k i + z.toInt64 = v
      refine g_lvs (lv' := [(0, .ref 54), (1, .int (nI k)), (2, .int (nI i)), (4, .long v)]) ?_ ⟨rfl, rfl, rfl, sJ hv, trivial⟩
      refine g_callV hC hN [.int (nI k), .int (nI i)] (c_X3_find hW h4 k i (by omega) hsz (hLk.lt hn) (by omega)) rfl M_X3_83 h0 h4.g100 rfl rfl (len_of rfl) (by decide) (by decide) ?_
      have e40 : ∀ j, nI 40 * nI k + nI j = nI (40 * k + j) := fun j => by rw [pk_mul, nI_add]
      have hk10 : k < 10 := by omega
      rintro r hp6 ⟨⟨i0, hi0, h8, rfl⟩ | ⟨h8, rfl⟩, rfl⟩
      · have hnz := hLk.nz hi0 h8
        refine g_run hC 2 rfl ?_
        refine g_ifge (tgt := 129) hC rfl (by decide) (fun _ => ?_) (fun h9 => absurd (nI_pos' (by omega)) h9)
        refine g_run hC 1 rfl ?_
        refine g_iflt (tgt := 143) hC rfl (by decide) (fun h9 => absurd h9 (nI_pos (by omega))) (fun _ => ?_)
        refine g_run hC 1 rfl ?_
        refine g_get hC rfl F_X3_32 h0 h4.g100 rfl ?_
        refine g_run hC 2 rfl ?_
        refine g_lst hC (40 * k + i0) rfl (hW.2 62 (by decide)) h4.g108 rfl (by omega) (by decide) ?_
        have h5 := h4.s_nu (x9 := va_up nu (40 * k + i0) v)
        refine g_run hC 1 rfl ?_
        refine g_iflt (tgt := 215) hC rfl (by decide) (fun h9 => absurd h9 (nI_pos (by omega))) (fun _ => ?_)
        refine g_run hC 3 rfl ?_
        refine g_ifne (tgt := 215) hC rfl (by decide) (fun h9 => ?_) (fun h9 => ?_)
        · have hv0 : ¬ v = 0 := fun q => h9 ((cmpz _).mpr q)
          refine g_run hC 1 rfl ?_
          refine g_lret hC rfl rfl ⟨⟨0, si, st, _, h5, Or.inr ⟨rfl, k, hk, rfl, Or.inr ⟨i, hi, rfl, Or.inr ⟨rfl, fun q => hnz q.1, sJo hv.symm, by rw [hv]; exact hLk.set hi0 h8 hi5 hv0, fun q hq => ⟨rfl, fun _ _ => rfl, fun j hj => va_up_ne _ _ (by omega)⟩⟩⟩⟩⟩, f4.tr (FM.up (by decide) (by decide))⟩ (Nat.le_refl _) (Nat.le_refl _)
        · have hv0 : v = 0 := (cmpz _).mp h9
          refine g_run hC 1 rfl ?_
          refine g_get hC rfl F_X3_26 h0 h5.g100 rfl ?_
          refine g_run hC 2 rfl ?_
          refine g_get hC rfl F_X3_26 h0 h5.g100 rfl ?_
          refine g_run hC 1 rfl ?_
          refine g_ild hC k rfl (hW.2 60 (by decide)) h5.g106 rfl hk10 (by decide) ?_
          refine g_run hC 2 rfl ?_
          refine g_top (nI (si k - 1)) (pk_sub (a := si k) (b := 1) (by omega)) ?_
          refine g_ist hC k rfl (hW.2 60 (by decide)) h5.g106 rfl hk10 (by decide) ?_
          rw [upI]
          have h6 := h5.s_si (x9 := va_up si k (si k - 1))
          refine g_run hC 1 rfl ?_
          refine g_get hC rfl F_X3_29 h0 h6.g100 rfl ?_
          refine g_run hC 2 rfl ?_
          refine g_get hC rfl F_X3_29 h0 h6.g100 rfl ?_
          refine g_run hC 4 rfl ?_
          refine g_get hC rfl F_X3_26 h0 h6.g100 rfl ?_
          refine g_run hC 1 rfl ?_
          refine g_ild hC k rfl (hW.2 60 (by decide)) h6.g106 rfl hk10 (by decide) ?_
          rw [va_up_self]
          refine g_run hC 1 rfl ?_
          refine g_ild hC (40 * k + (si k - 1)) rfl (hW.2 61 (by decide)) h6.g107 (e40 _) (by omega) (by decide) ?_
          refine g_ist hC (40 * k + i0) rfl (hW.2 61 (by decide)) h6.g107 rfl (by omega) (by decide) ?_
          rw [upI]
          have h7 := h6.s_st (x9 := va_up st (40 * k + i0) (st (40 * k + (si k - 1))))
          refine g_run hC 1 rfl ?_
          refine g_get hC rfl F_X3_32 h0 h7.g100 rfl ?_
          refine g_run hC 2 rfl ?_
          refine g_get hC rfl F_X3_32 h0 h7.g100 rfl ?_
          refine g_run hC 4 rfl ?_
          refine g_get hC rfl F_X3_26 h0 h7.g100 rfl ?_
          refine g_run hC 1 rfl ?_
          refine g_ild hC k rfl (hW.2 60 (by decide)) h7.g106 rfl hk10 (by decide) ?_
          rw [va_up_self]
          refine g_run hC 1 rfl ?_
          refine g_lld hC (40 * k + (si k - 1)) rfl (hW.2 62 (by decide)) h7.g108 (e40 _) (by omega) (by decide) ?_
          refine g_lst hC (40 * k + i0) rfl (hW.2 62 (by decide)) h7.g108 rfl (by omega) (by decide) ?_
          have h8n := h7.s_nu (x9 := va_up (va_up nu (40 * k + i0) v) (40 * k + i0) (va_up nu (40 * k + i0) v (40 * k + (si k - 1))))
          refine g_run hC 1 rfl ?_
          refine g_lret hC rfl rfl ⟨⟨0, _, _, _, h8n, Or.inr ⟨rfl, k, hk, rfl, Or.inr ⟨i, hi, rfl, Or.inr ⟨rfl, fun q => hnz q.1, sJo hv.symm, ?_, ?_⟩⟩⟩⟩, f4.tr ((((FM.up (by decide) (by decide)).tr (FM.up (by decide) (by decide))).tr (FM.up (by decide) (by decide))).tr (FM.up (by decide) (by decide)))⟩ (Nat.le_refl _) (Nat.le_refl _)
          · rw [hv, hv0]
            refine hLk.del hi0 h8 hi5 (va_up_self _ _ _) ?_ ?_
            · intro j hj hji
              refine ⟨va_up_ne _ _ (by omega), ?_⟩
              rw [va_up_ne _ _ (by omega), va_up_ne _ _ (by omega)]
            · intro hj
              refine ⟨va_up_self _ _ _, ?_⟩
              rw [va_up_self, va_up_ne _ _ (by omega)]
          · intro q hq
            refine ⟨va_up_ne _ _ hq, fun j hj => va_up_ne _ _ (by omega), fun j hj => ?_⟩
            rw [va_up_ne _ _ (by omega), va_up_ne _ _ (by omega)]
      · have hzr := hLk.zr hi5 h8
        refine g_run hC 2 rfl ?_
        refine g_ifge (tgt := 129) hC rfl (by decide) (fun h9 => absurd h9 (by decide)) (fun _ => ?_)
        refine g_run hC 3 rfl ?_
        refine g_ifeq (tgt := 129) hC rfl (by decide) (fun h9 => ?_) (fun h9 => ?_)
        · have hv0 : v = 0 := (cmpz _).mp h9
          refine g_run hC 1 rfl ?_
          refine g_iflt (tgt := 143) hC rfl (by decide) (fun _ => ?_) (fun h9 => absurd neg1_lt h9)
          refine g_run hC 1 rfl ?_
          refine g_iflt (tgt := 215) hC rfl (by decide) (fun _ => ?_) (fun h9 => absurd neg1_lt h9)
          refine g_run hC 1 rfl ?_
          refine g_lret hC rfl rfl ⟨⟨0, si, st, nu, h4, Or.inr ⟨rfl, k, hk, rfl, Or.inr ⟨i, hi, rfl, Or.inr ⟨rfl, fun q => q.2.1 (hv.trans hv0), sJo hv.symm, ?_, fun q hq => ⟨rfl, fun _ _ => rfl, fun _ _ => rfl⟩⟩⟩⟩⟩, f4⟩ (Nat.le_refl _) (Nat.le_refl _)
          rw [hv, show va_up (rs k) i v = rs k from by
            funext j
            by_cases hj : j = i
            · subst hj; rw [va_up_self, hv0, hzr]
            · rw [va_up_ne _ _ hj]]
          exact hLk
        · have hv0 : ¬ v = 0 := fun q => h9 ((cmpz _).mpr q)
          refine g_run hC 1 rfl ?_
          refine g_get hC rfl F_X3_26 h0 h4.g100 rfl ?_
          refine g_run hC 1 rfl ?_
          refine g_ild hC k rfl (hW.2 60 (by decide)) h4.g106 rfl hk10 (by decide) ?_
          refine g_run hC 1 rfl ?_
          refine g_icne (tgt := 94) hC rfl (by decide) (fun h10 => ?_) (fun h10 => ?_)
          · have hne : ¬ si k = 40 := fun q => h10 (by show nI (si k) = _; rw [q]; rfl)
            refine g_run hC 4 rfl ?_
            refine g_get hC rfl F_X3_26 h0 h4.g100 rfl ?_
            refine g_run hC 1 rfl ?_
            refine g_ild hC k rfl (hW.2 60 (by decide)) h4.g106 rfl hk10 (by decide) ?_
            refine g_run hC 3 rfl ?_
            refine g_lvs (lv' := [(0, .ref 54), (1, .int (nI k)), (2, .int (nI i)), (4, .long v), (6, .int (nI (40 * k + si k)))]) ?_ ⟨rfl, rfl, rfl, rfl, sI (e40 _), trivial⟩
            refine g_get hC rfl F_X3_26 h0 h4.g100 rfl ?_
            refine g_run hC 2 rfl ?_
            refine g_get hC rfl F_X3_26 h0 h4.g100 rfl ?_
            refine g_run hC 1 rfl ?_
            refine g_ild hC k rfl (hW.2 60 (by decide)) h4.g106 rfl hk10 (by decide) ?_
            refine g_run hC 2 rfl ?_
            refine g_top (nI (si k + 1)) (nI_s _) ?_
            refine g_ist hC k rfl (hW.2 60 (by decide)) h4.g106 rfl hk10 (by decide) ?_
            rw [upI]
            have h5 := h4.s_si (x9 := va_up si k (si k + 1))
            refine g_run hC 1 rfl ?_
            refine g_get hC rfl F_X3_29 h0 h5.g100 rfl ?_
            refine g_run hC 2 rfl ?_
            refine g_ist hC (40 * k + si k) rfl (hW.2 61 (by decide)) h5.g107 rfl (by omega) (by decide) ?_
            rw [upI]
            have h6 := h5.s_st (x9 := va_up st (40 * k + si k) i)
            refine g_run hC 1 rfl ?_
            refine g_iflt (tgt := 143) hC rfl (by decide) (fun h9 => absurd h9 (nI_pos (by omega))) (fun _ => ?_)
            refine g_run hC 1 rfl ?_
            refine g_get hC rfl F_X3_32 h0 h6.g100 rfl ?_
            refine g_run hC 2 rfl ?_
            refine g_lst hC (40 * k + si k) rfl (hW.2 62 (by decide)) h6.g108 rfl (by omega) (by decide) ?_
            have h7 := h6.s_nu (x9 := va_up nu (40 * k + si k) v)
            refine g_run hC 1 rfl ?_
            refine g_iflt (tgt := 215) hC rfl (by decide) (fun h9 => absurd h9 (nI_pos (by omega))) (fun _ => ?_)
            refine g_run hC 3 rfl ?_
            refine g_ifne (tgt := 215) hC rfl (by decide) (fun _ => ?_) (fun h11 => absurd ((cmpz _).mp h11) hv0)
            refine g_run hC 1 rfl ?_
            refine g_lret hC rfl rfl ⟨⟨0, _, _, _, h7, Or.inr ⟨rfl, k, hk, rfl, Or.inr ⟨i, hi, rfl, Or.inr ⟨rfl, fun q => hne q.2.2, sJo hv.symm, ?_, ?_⟩⟩⟩⟩, f4.tr (((FM.up (by decide) (by decide)).tr (FM.up (by decide) (by decide))).tr (FM.up (by decide) (by decide)))⟩ (Nat.le_refl _) (Nat.le_refl _)
            · rw [hv]
              exact hLk.app h8 hi hi5 hv0 (by omega) (va_up_self _ _ _) (fun j hj => ⟨va_up_ne _ _ (by omega), va_up_ne _ _ (by omega)⟩) ⟨va_up_self _ _ _, va_up_self _ _ _⟩
            · exact fun q hq => ⟨va_up_ne _ _ hq, fun j hj => va_up_ne _ _ (by omega), fun j hj => va_up_ne _ _ (by omega)⟩
          · have h40 : si k = 40 := (nI_eq (b := 40) (by omega) (by decide)).mp h10
            refine g_run hC 2 rfl ?_
            refine g_putI hC rfl F_X3_41 h0 h4.g100 (len_of rfl) rfl rfl ?_
            have h5 := h4.obj (th2 := 3) (wi2 := wi) (an2 := an) (li2 := li)
            refine g_run hC 1 rfl ?_
            exact g_lret hC rfl rfl ⟨⟨3, si, st, nu, h5, Or.inr ⟨rfl, k, hk, rfl, Or.inr ⟨i, hi, rfl, Or.inl ⟨rfl, hzr, fun z9 => hv0 (hv.symm.trans z9), h40, ⟨_, rfl⟩, rfl, rfl, rfl⟩⟩⟩⟩, f4.tr (FM.up (by decide) (by decide))⟩ (Nat.le_refl _) (Nat.le_refl _)
  · refine g_run hC 2 rfl ?_
    refine g_get hC rfl F_X3_41 h0 h2.g100 rfl ?_
    refine g_ifne (tgt := 29) hC rfl (by decide) (fun _ => ?_) (fun h3 => absurd ((nI_z (by omega)).mp h3) hz)
    refine g_run hC 1 rfl ?_
    refine g_get hC rfl F_X3_41 h0 h2.g100 rfl ?_
    refine g_putI hC rfl F_X3_41 h0 h2.g100 (len_of rfl) rfl rfl ?_
    have h4 := h2.obj (th2 := lackN li x) (wi2 := wi) (an2 := an) (li2 := li)
    refine g_run hC 1 rfl ?_
    refine g_get hC rfl F_X3_41 h0 h4.g100 rfl ?_
    refine g_ifle (tgt := 45) hC rfl (by decide) (fun h3 => ?_) (fun _ => ?_)
    · have := (nI_leI (a := lackN li x) (b := 0) (by omega) (by decide)).mp h3
      exact absurd (Nat.le_zero.mp this) hz
    · refine g_run hC 1 rfl ?_
      exact g_lret hC rfl rfl ⟨⟨_, si, st, nu, h4, Or.inl ⟨rfl, hz, ⟨_, rfl⟩, rfl, rfl, rfl⟩⟩, f2.tr (FM.up (by decide) (by decide))⟩ (Nat.le_refl _) (Nat.le_refl _)
end
end
section
/-! sums over the subsets of a set, and their inverse -/
theorem sub_iff {S p : Nat} : S &&& p = S ↔ ∀ t, S.testBit t = true → p.testBit t = true := by
  constructor
  · intro h t ht
    have h2 := congrArg (fun x => x.testBit t) h
    simp only [Nat.testBit_and] at h2
    rw [ht, Bool.true_and] at h2
    exact h2
  · intro h
    apply Nat.eq_of_testBit_eq
    intro t
    rw [Nat.testBit_and]
    cases ht : S.testBit t with
    | false => rfl
    | true => rw [h t ht]; rfl
theorem or_sub {x y p : Nat} : (x ||| y) &&& p = (x ||| y) ↔ x &&& p = x ∧ y &&& p = y := by
  rw [sub_iff, sub_iff, sub_iff]
  constructor
  · intro h
    exact ⟨fun t ht => h t (by rw [Nat.testBit_or, ht, Bool.true_or]), fun t ht => h t (by rw [Nat.testBit_or, ht, Bool.or_true])⟩
  · rintro ⟨h1, h2⟩ t ht
    rw [Nat.testBit_or, Bool.or_eq_true] at ht
    rcases ht with ht | ht
    · exact h1 t ht
    · exact h2 t ht
theorem agree_iff {S p j : Nat} : S % 2 ^ j = p % 2 ^ j ↔ ∀ t, t < j → S.testBit t = p.testBit t := by
  constructor
  · intro h t ht
    have h2 := congrArg (fun x => x.testBit t) h
    simp only [Nat.testBit_mod_two_pow] at h2
    rw [decide_eq_true ht, Bool.true_and, Bool.true_and] at h2
    exact h2
  · intro h
    apply Nat.eq_of_testBit_eq
    intro t
    rw [Nat.testBit_mod_two_pow, Nat.testBit_mod_two_pow]
    by_cases ht : t < j
    · rw [h t ht]
    · rw [decide_eq_false ht]; rfl
theorem and_pow {p j : Nat} : p &&& 2 ^ j = 0 ↔ p.testBit j = false := by
  constructor
  · intro h
    have h2 := congrArg (fun x => x.testBit j) h
    simp only [Nat.testBit_and, Nat.testBit_two_pow, Nat.zero_testBit] at h2
    rw [decide_eq_true trivial, Bool.and_true] at h2
    exact h2
  · intro h
    apply Nat.eq_of_testBit_eq
    intro t
    rw [Nat.testBit_and, Nat.testBit_two_pow, Nat.zero_testBit]
    by_cases e : j = t
    · rw [← e, h]; rfl
    · rw [decide_eq_false e, Bool.and_false]
theorem tb_xor {p j t : Nat} : (p ^^^ 2 ^ j).testBit t = (p.testBit t ^^ decide (j = t)) := by
  rw [Nat.testBit_xor, Nat.testBit_two_pow]
theorem vsN_congr {f g : Nat → Int64} {p : Nat} : ∀ {N : Nat}, (∀ i, i < N → f i = g i) → vsN f p N = vsN g p N
  | 0, _ => rfl
  | N + 1, h => by simp only [vsN]; rw [vsN_congr (N := N) (fun i hi => h i (by omega)), h N (by omega)]
theorem vs_cut {f : Nat → Int64} {p M : Nat} (hp : p < M) : ∀ {N : Nat}, M ≤ N → vsN f p N = vsN f p M
  | 0, h => by omega
  | N + 1, h => by
    by_cases e : M = N + 1
    · rw [e]
    · simp only [vsN]
      have h2 : N &&& p ≤ p := Nat.and_le_right
      rw [if_neg (by omega)]
      exact vs_cut hp (by omega)
theorem vs_inc {f : Nat → Int64} {k p : Nat} {v : Int64} : ∀ {N : Nat}, k < N → vsN (inc f k v) p N = vsN f p N + (if k &&& p = k then v else 0)
  | 0, h => by omega
  | N + 1, h => by
    by_cases e : k = N
    · subst e
      have h1 : vsN (inc f k v) p k = vsN f p k := vsN_congr (fun i hi => va_up_ne _ _ (by omega))
      simp only [vsN]
      rw [h1, show inc f k v k = f k + v from va_up_self _ _ _]
      split
      · rw [Int64.add_assoc]
      · rw [Int64.add_zero]
    · have ih := vs_inc (f := f) (v := v) (p := p) (k := k) (N := N) (by omega)
      simp only [vsN]
      rw [ih, show inc f k v N = f N from va_up_ne _ _ (by omega)]
      by_cases h2 : N &&& p = N
      · rw [if_pos h2, if_pos h2, Int64.add_assoc, Int64.add_comm _ (f N), ← Int64.add_assoc]
      · rw [if_neg h2, if_neg h2]
theorem xor_lt_self {p j : Nat} (h : ¬ p &&& 2 ^ j = 0) : p ^^^ 2 ^ j < p := by
  have hb : p.testBit j = true := by
    cases hh : p.testBit j with
    | true => rfl
    | false => exact absurd (and_pow.mpr hh) h
  have h2 : (p ^^^ 2 ^ j) &&& p = p ^^^ 2 ^ j := sub_iff.mpr (fun t ht => by
    rw [tb_xor] at ht
    by_cases e : j = t
    · rw [← e]; exact hb
    · rw [decide_eq_false e, Bool.xor_false] at ht; exact ht)
  have h3 : (p ^^^ 2 ^ j) &&& p ≤ p := Nat.and_le_right
  rw [h2] at h3
  rcases Nat.lt_or_ge (p ^^^ 2 ^ j) p with q | q
  · exact q
  · have h4 : p ^^^ 2 ^ j = p := by omega
    have h5 := congrArg (fun x => x.testBit j) h4
    simp only [tb_xor] at h5
    rw [hb] at h5
    simp at h5
theorem xor_clr {p j : Nat} (h : ¬ p &&& 2 ^ j = 0) : (p ^^^ 2 ^ j) &&& 2 ^ j = 0 := by
  have hb : p.testBit j = true := by
    cases hh : p.testBit j with
    | true => rfl
    | false => exact absurd (and_pow.mpr hh) h
  rw [and_pow, tb_xor, hb]
  simp
theorem pass_at {f : Nat → Int64} {j p : Nat} : ∀ {M : Nat}, passN f (2 ^ j) M p = if p < M ∧ ¬ p &&& 2 ^ j = 0 then f p - f (p ^^^ 2 ^ j) else f p
  | 0 => by rw [if_neg (fun z => Nat.not_lt_zero _ z.1)]; rfl
  | M + 1 => by
    have ih := fun q => pass_at (f := f) (j := j) (p := q) (M := M)
    simp only [passN]
    by_cases hM : M &&& 2 ^ j = 0
    · rw [if_pos hM, ih p]
      by_cases hp : p = M
      · subst hp
        rw [if_neg (fun z => z.2 hM), if_neg (fun z => z.2 hM)]
      · by_cases hq : p < M ∧ ¬ p &&& 2 ^ j = 0
        · rw [if_pos hq, if_pos ⟨by omega, hq.2⟩]
        · rw [if_neg hq, if_neg (fun z => hq ⟨by omega, z.2⟩)]
    · rw [if_neg hM]
      by_cases hp : p = M
      · subst hp
        rw [va_up_self, ih p, ih (p ^^^ 2 ^ j), if_neg (fun z => Nat.lt_irrefl _ z.1), if_neg (fun z => z.2 (xor_clr hM)), if_pos ⟨by omega, hM⟩]
      · rw [va_up_ne _ _ hp, ih p]
        by_cases hq : p < M ∧ ¬ p &&& 2 ^ j = 0
        · rw [if_pos hq, if_pos ⟨by omega, hq.2⟩]
        · rw [if_neg hq, if_neg (fun z => hq ⟨by omega, z.2⟩)]
def wS (row : Nat → Int64) (j p : Nat) : Nat → Int64
  | 0 => 0
  | S + 1 => if S &&& p = S ∧ S % 2 ^ j = p % 2 ^ j then wS row j p S + row S else wS row j p S
theorem wS_0 {row : Nat → Int64} {p : Nat} : ∀ {M : Nat}, wS row 0 p M = vsN row p M
  | 0 => rfl
  | M + 1 => by
    simp only [wS, vsN]
    rw [wS_0 (M := M)]
    by_cases h : M &&& p = M
    · rw [if_pos h, if_pos ⟨h, by rw [Nat.pow_zero, Nat.mod_one, Nat.mod_one]⟩]
    · rw [if_neg h, if_neg (fun z => h z.1)]
theorem wS_clr {row : Nat → Int64} {j p : Nat} (h : p &&& 2 ^ j = 0) : ∀ {M : Nat}, wS row (j + 1) p M = wS row j p M
  | 0 => rfl
  | M + 1 => by
    have hb := and_pow.mp h
    have e : (M &&& p = M ∧ M % 2 ^ (j + 1) = p % 2 ^ (j + 1)) ↔ (M &&& p = M ∧ M % 2 ^ j = p % 2 ^ j) := by
      rw [agree_iff, agree_iff]
      constructor
      · exact fun q => ⟨q.1, fun t ht => q.2 t (by omega)⟩
      · intro q
        refine ⟨q.1, fun t ht => ?_⟩
        by_cases e : t = j
        · subst e
          rw [hb]
          cases hm : M.testBit t with
          | false => rfl
          | true => rw [sub_iff.mp q.1 t hm] at hb; cases hb
        · exact q.2 t (by omega)
    simp only [wS]
    rw [wS_clr h (M := M)]
    by_cases q : M &&& p = M ∧ M % 2 ^ j = p % 2 ^ j
    · rw [if_pos q, if_pos (e.mpr q)]
    · rw [if_neg q, if_neg (fun z => q (e.mp z))]
theorem wS_set {row : Nat → Int64} {j p : Nat} (h : ¬ p &&& 2 ^ j = 0) : ∀ {M : Nat}, wS row j p M = wS row (j + 1) p M + wS row j (p ^^^ 2 ^ j) M
  | 0 => (Int64.add_zero (0 : Int64)).symm
  | M + 1 => by
    have hb : p.testBit j = true := by
      cases hh : p.testBit j with
      | true => rfl
      | false => exact absurd (and_pow.mpr hh) h
    have ih := wS_set (row := row) h (M := M)
    have eQ : M.testBit j = true → ((M &&& p = M ∧ M % 2 ^ j = p % 2 ^ j) ↔ (M &&& p = M ∧ M % 2 ^ (j + 1) = p % 2 ^ (j + 1))) := by
      intro hm
      rw [agree_iff, agree_iff]
      constructor
      · intro q
        refine ⟨q.1, fun t ht => ?_⟩
        by_cases e : t = j
        · rw [e, hm, hb]
        · exact q.2 t (by omega)
      · exact fun q => ⟨q.1, fun t ht => q.2 t (by omega)⟩
    have eR : M.testBit j = true → ¬ (M &&& (p ^^^ 2 ^ j) = M ∧ M % 2 ^ j = (p ^^^ 2 ^ j) % 2 ^ j) := by
      intro hm q
      have := sub_iff.mp q.1 j hm
      rw [tb_xor, hb] at this
      simp at this
    have eQ2 : M.testBit j = false → ¬ (M &&& p = M ∧ M % 2 ^ (j + 1) = p % 2 ^ (j + 1)) := by
      intro hm q
      have := agree_iff.mp q.2 j (by omega)
      rw [hm, hb] at this
      cases this
    have eR2 : M.testBit j = false → ((M &&& p = M ∧ M % 2 ^ j = p % 2 ^ j) ↔ (M &&& (p ^^^ 2 ^ j) = M ∧ M % 2 ^ j = (p ^^^ 2 ^ j) % 2 ^ j)) := by
      intro hm
      have hx : ∀ t, t ≠ j → (p ^^^ 2 ^ j).testBit t = p.testBit t := fun t ht => by
        rw [tb_xor, decide_eq_false (Ne.symm ht), Bool.xor_false]
      rw [agree_iff, agree_iff, sub_iff, sub_iff]
      constructor
      · intro q
        refine ⟨fun t ht => ?_, fun t ht => ?_⟩
        · have : t ≠ j := fun z => by rw [z, hm] at ht; cases ht
          rw [hx t this]; exact q.1 t ht
        · rw [hx t (by omega)]; exact q.2 t ht
      · intro q
        refine ⟨fun t ht => ?_, fun t ht => ?_⟩
        · have : t ≠ j := fun z => by rw [z, hm] at ht; cases ht
          rw [← hx t this]; exact q.1 t ht
        · rw [← hx t (by omega)]; exact q.2 t ht
    simp only [wS]
    rw [ih]
    cases hm : M.testBit j with
    | true =>
      rw [if_neg (eR hm)]
      by_cases q : M &&& p = M ∧ M % 2 ^ j = p % 2 ^ j
      · rw [if_pos q, if_pos ((eQ hm).mp q), Int64.add_assoc, Int64.add_comm _ (row M), ← Int64.add_assoc]
      · rw [if_neg q, if_neg (fun z => q ((eQ hm).mpr z))]
    | false =>
      rw [if_neg (eQ2 hm)]
      by_cases q : M &&& p = M ∧ M % 2 ^ j = p % 2 ^ j
      · rw [if_pos q, if_pos ((eR2 hm).mp q), Int64.add_assoc]
      · rw [if_neg q, if_neg (fun z => q ((eR2 hm).mpr z))]
theorem wS_n {row : Nat → Int64} {n p : Nat} (hp : p < 2 ^ n) : ∀ {M : Nat}, M ≤ 2 ^ n → wS row n p M = if p < M then row p else 0
  | 0, _ => by rw [if_neg (Nat.not_lt_zero _)]; rfl
  | M + 1, h => by
    have ih := wS_n (row := row) hp (M := M) (by omega)
    simp only [wS]
    rw [ih, Nat.mod_eq_of_lt (show M < 2 ^ n by omega), Nat.mod_eq_of_lt hp]
    by_cases e : M = p
    · subst e
      rw [if_pos ⟨Nat.and_self _, rfl⟩, if_neg (Nat.lt_irrefl _), if_pos (Nat.lt_succ_self _), Int64.zero_add]
    · rw [if_neg (fun z => e z.2)]
      by_cases q : p < M
      · rw [if_pos q, if_pos (by omega)]
      · rw [if_neg q, if_neg (by omega)]
theorem mob_w {f row : Nat → Int64} {n : Nat} (hf : ∀ p, p < 2 ^ n → f p = vsN row p (2 ^ n)) : ∀ {j : Nat}, j ≤ n → ∀ {p : Nat}, p < 2 ^ n → mobN f (2 ^ n) j p = wS row j p (2 ^ n)
  | 0, _, p, hp => by rw [wS_0]; exact hf p hp
  | j + 1, hj, p, hp => by
    have ih := fun q (hq : q < 2 ^ n) => mob_w hf (j := j) (by omega) (p := q) hq
    simp only [mobN]
    rw [pass_at]
    by_cases h : p &&& 2 ^ j = 0
    · rw [if_neg (fun z => z.2 h), ih p hp, wS_clr h]
    · have hx := xor_lt_self h
      rw [if_pos ⟨hp, h⟩, ih p hp, ih _ (by omega), wS_set h, Int64.add_sub_cancel]
/-- the sums over subsets turned back -/
theorem mob_inv {f row : Nat → Int64} {n : Nat} (hf : ∀ p, p < 2 ^ n → f p = vsN row p (2 ^ n)) {p : Nat} (hp : p < 2 ^ n) : mobN f (2 ^ n) n p = row p := by
  rw [mob_w hf (Nat.le_refl n) hp, wS_n hp (Nat.le_refl _), if_pos hp]
theorem pass_inj {f g : Nat → Int64} {j n : Nat} (h : ∀ p, p < 2 ^ n → passN f (2 ^ j) (2 ^ n) p = passN g (2 ^ j) (2 ^ n) p) : ∀ p, p < 2 ^ n → f p = g p := by
  intro p hp
  have h1 := h p hp
  rw [pass_at, pass_at] at h1
  by_cases hc : p &&& 2 ^ j = 0
  · rw [if_neg (fun z => z.2 hc), if_neg (fun z => z.2 hc)] at h1
    exact h1
  · have hx := xor_lt_self hc
    have hk := xor_clr hc
    have h2 := h (p ^^^ 2 ^ j) (by omega)
    rw [pass_at, pass_at, if_neg (fun z => z.2 hk), if_neg (fun z => z.2 hk)] at h2
    rw [if_pos ⟨hp, hc⟩, if_pos ⟨hp, hc⟩, h2] at h1
    have h3 := congrArg (fun x => x + g (p ^^^ 2 ^ j)) h1
    simp only [Int64.sub_add_cancel] at h3
    exact h3
theorem mob_inj {f g : Nat → Int64} {n : Nat} : ∀ {j : Nat}, (∀ p, p < 2 ^ n → mobN f (2 ^ n) j p = mobN g (2 ^ n) j p) → ∀ p, p < 2 ^ n → f p = g p
  | 0, h => h
  | j + 1, h => mob_inj (j := j) (pass_inj h)
theorem vs_mob {f : Nat → Int64} {n p : Nat} (hp : p < 2 ^ n) : vsN (mobN f (2 ^ n) n) p (2 ^ n) = f p :=
  mob_inj (j := n) (f := fun q => vsN (mobN f (2 ^ n) n) q (2 ^ n)) (g := f) (fun q hq => mob_inv (fun _ _ => rfl) hq) p hp
theorem turn_pass {f : Nat → Int64} {b : Nat} (hb : b = 1 ∨ b = 2 ∨ b = 4) : ∀ {i : Nat}, i ≤ 8 → turnN f b i = passN f b i
  | 0, _ => rfl
  | i + 1, h => by
    simp only [turnN, passN]
    rw [turn_pass hb (i := i) (by omega)]
    by_cases hi : i &&& b = 0
    · rw [if_pos hi, if_pos hi]
    · rw [if_neg hi, if_neg hi]
      have e : ∀ i, i < 8 → ∀ b, b < 5 → (b = 1 ∨ b = 2 ∨ b = 4) → ¬ i &&& b = 0 → i - b = i ^^^ b := by decide
      rw [e i (by omega) b (by omega) hb hi]
theorem vs_gT {kd a b c X : Nat} (hX : X < 8) : vsN (gT kd a b c) X 8 = gN kd a b c X := by
  have h : gT kd a b c = mobN (gN kd a b c) (2 ^ 3) 3 := by
    unfold gT
    rw [turn_pass (Or.inl rfl) (Nat.le_refl _), turn_pass (Or.inr (Or.inl rfl)) (Nat.le_refl _), turn_pass (Or.inr (Or.inr rfl)) (Nat.le_refl _)]
    rfl
  rw [h]
  exact vs_mob (n := 3) hX
end
section
theorem mul_sub0 {x w p : Nat} : ((x % 2) * w) &&& p = (x % 2) * w ↔ x % 2 = 0 ∨ w &&& p = w := by
  rcases (show x % 2 = 0 ∨ x % 2 = 1 by omega) with e | e <;> rw [e]
  · rw [Nat.zero_mul, Nat.zero_and]; simp
  · rw [Nat.one_mul]; simp
def bN3 (xa xb xc : Bool) : Nat := xa.toNat + 2 * xb.toNat + 4 * xc.toNat
theorem x3 : ∀ xa xb xc : Bool, ∀ t, t < 8 → (((t % 2 = 0 ∨ xa = true) ∧ (t / 2 % 2 = 0 ∨ xb = true) ∧ (t / 4 % 2 = 0 ∨ xc = true)) ↔ t &&& bN3 xa xb xc = t) := by decide +kernel
theorem x3d : ∀ xa xb xc : Bool, bN3 xa xb xc < 8 ∧ bN3 xa xb xc % 2 = xa.toNat ∧ bN3 xa xb xc / 2 % 2 = xb.toNat ∧ bN3 xa xb xc / 4 % 2 = xc.toNat := by decide +kernel
set_option maxRecDepth 100000 in
theorem xlit : ∀ a : Nat, a < 20 → ∀ p : Nat, p < 512 → litF a (decide (wbit a &&& p = wbit a)).toNat = litW a p := by decide +kernel
def gS (ts : Nat → Nat) (tn : Nat → Int64) (p : Nat) : Nat → Int64
  | 0 => 0
  | t + 1 => if ts t &&& p = ts t then gS ts tn p t + tn t else gS ts tn p t
theorem gS_vs {a b c p : Nat} {tn : Nat → Int64} : ∀ {m : Nat}, m ≤ 8 → gS (gV a b c) tn p m = vsN tn (bN3 (decide (wbit a &&& p = wbit a)) (decide (wbit b &&& p = wbit b)) (decide (wbit c &&& p = wbit c))) m
  | 0, _ => rfl
  | m + 1, h => by
    have e : (gV a b c m &&& p = gV a b c m) ↔ m &&& bN3 (decide (wbit a &&& p = wbit a)) (decide (wbit b &&& p = wbit b)) (decide (wbit c &&& p = wbit c)) = m := by
      rw [← x3 _ _ _ m (by omega)]
      unfold gV
      rw [or_sub, or_sub, mul_sub0, mul_sub0, mul_sub0, decide_eq_true_eq, decide_eq_true_eq, decide_eq_true_eq, and_assoc]
    simp only [gS, vsN]
    rw [gS_vs (m := m) (by omega)]
    by_cases q : gV a b c m &&& p = gV a b c m
    · rw [if_pos q, if_pos (e.mp q)]
    · rw [if_neg q, if_neg (fun z => q (e.mpr z))]
theorem gS_gate {kd a b c p : Nat} (ha : a < 20) (hb : b < 20) (hc : c < 20) (hp : p < 512) : gS (gV a b c) (gT kd a b c) p 8 = lN (outc kd (litW a p) (litW b p) (litW c p)) := by
  rw [gS_vs (Nat.le_refl _)]
  obtain ⟨h1, h2, h3, h4⟩ := x3d (decide (wbit a &&& p = wbit a)) (decide (wbit b &&& p = wbit b)) (decide (wbit c &&& p = wbit c))
  rw [vs_gT h1]
  unfold gN
  rw [h2, h3, h4, xlit a ha p hp, xlit b hb p hp, xlit c hc p hp]
def aS (p S : Nat) (num : Int64) (ts : Nat → Nat) (tn : Nat → Int64) : Nat → Int64
  | 0 => 0
  | t + 1 => aS p S num ts tn t + (if (S ||| ts t) &&& p = (S ||| ts t) then num * tn t else 0)
theorem vs_addN {f : Nat → Int64} {p S : Nat} {num : Int64} {ts : Nat → Nat} {tn : Nat → Int64} (hS : S < 512) (hts : ∀ t, t < 8 → ts t < 512) : ∀ {m : Nat}, m ≤ 8 → vsN (addN f S num ts tn m) p 512 = vsN f p 512 + aS p S num ts tn m
  | 0, _ => (Int64.add_zero _).symm
  | m + 1, h => by
    simp only [addN, aS]
    rw [vs_inc (or_lt9 hS (hts m (by omega))), vs_addN hS hts (m := m) (by omega), Int64.add_assoc]
theorem aS_eq {p S : Nat} {num : Int64} {ts : Nat → Nat} {tn : Nat → Int64} : ∀ {m : Nat}, aS p S num ts tn m = if S &&& p = S then num * gS ts tn p m else 0
  | 0 => by
    simp only [aS, gS]
    split
    · rw [Int64.mul_zero]
    · rfl
  | m + 1 => by
    simp only [aS, gS]
    rw [aS_eq (m := m)]
    by_cases h : S &&& p = S
    · rw [if_pos h, if_pos h]
      by_cases h2 : ts m &&& p = ts m
      · rw [if_pos (or_sub.mpr ⟨h, h2⟩), if_pos h2, Int64.mul_add]
      · rw [if_neg (fun z => h2 (or_sub.mp z).2), if_neg h2, Int64.add_zero]
    · rw [if_neg h, if_neg h, if_neg (fun z => h (or_sub.mp z).1), Int64.add_zero]
theorem vsN_zero {p : Nat} : ∀ {N : Nat}, vsN (fun _ => 0) p N = 0
  | 0 => rfl
  | N + 1 => by
    simp only [vsN]
    rw [vsN_zero (N := N)]
    split
    · exact Int64.add_zero _
    · rfl
set_option maxRecDepth 100000 in
theorem clr_x : ∀ i : Nat, i < 9 → ∀ p : Nat, p < 512 → p &&& (511 ^^^ 2 ^ i) = if p &&& 2 ^ i = 0 then p else p ^^^ 2 ^ i := by decide +kernel
theorem red_tb {t : GT} {i p u : Nat} (hi : i < 9) (hp : p < 512) : (red t i p).testBit u = if u = i then decide (gOut t p = 1) else p.testBit u := by
  unfold red
  by_cases h : gOut t p = 1
  · rw [if_pos h, Nat.testBit_or, Nat.testBit_two_pow, decide_eq_true h]
    by_cases e : u = i
    · rw [if_pos e, decide_eq_true e.symm, Bool.or_true]
    · rw [if_neg e, decide_eq_false (Ne.symm e), Bool.or_false]
  · rw [if_neg h, decide_eq_false h, clr_x i hi p hp]
    by_cases hc : p &&& 2 ^ i = 0
    · rw [if_pos hc]
      by_cases e : u = i
      · rw [if_pos e, e, and_pow.mp hc]
      · rw [if_neg e]
    · rw [if_neg hc, tb_xor]
      by_cases e : u = i
      · have hb : p.testBit i = true := by
          cases hh : p.testBit i with
          | true => rfl
          | false => exact absurd (and_pow.mpr hh) hc
        rw [if_pos e, e, hb, decide_eq_true rfl]; rfl
      · rw [if_neg e, decide_eq_false (Ne.symm e), Bool.xor_false]
theorem sub_pow {M i : Nat} : i < 9 → M < 512 → ¬ M &&& 2 ^ i = 0 → M - 2 ^ i = M ^^^ 2 ^ i := by
  have h : ∀ i : Nat, i < 9 → ∀ M : Nat, M < 512 → ¬ M &&& 2 ^ i = 0 → M - 2 ^ i = M ^^^ 2 ^ i := by decide +kernel
  exact fun a b c => h i a M b c
theorem vsN_s {row : Nat → Int64} {o M : Nat} : vsN row o (M + 1) = if M &&& o = M then vsN row o M + row M else vsN row o M := rfl
theorem elimN_s {row : Nat → Int64} {wb : Nat} {ts : Nat → Nat} {tn : Nat → Int64} {M : Nat} : elimN row wb ts tn (M + 1) = if row M = 0 then elimN row wb ts tn M else if M &&& wb = 0 then inc (elimN row wb ts tn M) M (row M) else addN (elimN row wb ts tn M) (M - wb) (row M) ts tn 8 := rfl
theorem vs_elim {t : GT} {i p : Nat} {row : Nat → Int64} (hi : i < 9) (hg : gGood i t) (hp : p < 512) : ∀ {M : Nat}, M ≤ 512 → vsN (elimN row (2 ^ i) t.2.2.2.2.1 t.2.2.2.2.2 M) p 512 = vsN row (red t i p) M
  | 0, _ => vsN_zero
  | M + 1, h => by
    have ih := vs_elim (row := row) hi hg hp (M := M) (by omega)
    have hlt := hg.lt hi
    obtain ⟨g1, g2, g3, g4, g5, g6⟩ := hg
    rw [elimN_s, vsN_s (row := row) (o := red t i p)]
    by_cases hr : row M = 0
    · rw [if_pos hr, ih, hr, Int64.add_zero]
      split <;> rfl
    · rw [if_neg hr]
      by_cases hM : M &&& 2 ^ i = 0
      · have hb := and_pow.mp hM
        have e : M &&& red t i p = M ↔ M &&& p = M := by
          rw [sub_iff, sub_iff]
          have hx : ∀ u, M.testBit u = true → (red t i p).testBit u = p.testBit u := fun u hu => by
            rw [red_tb hi hp, if_neg (fun z => by rw [z, hb] at hu; cases hu)]
          exact ⟨fun q u hu => by rw [← hx u hu]; exact q u hu, fun q u hu => by rw [hx u hu]; exact q u hu⟩
        rw [if_pos hM, vs_inc (by omega), ih]
        by_cases q : M &&& p = M
        · rw [if_pos q, if_pos (e.mpr q)]
        · rw [if_neg q, if_neg (fun z => q (e.mp z)), Int64.add_zero]
      · have hb : M.testBit i = true := by
          cases hh : M.testBit i with
          | true => rfl
          | false => exact absurd (and_pow.mpr hh) hM
        have e : M &&& red t i p = M ↔ ((M ^^^ 2 ^ i) &&& p = M ^^^ 2 ^ i ∧ gOut t p = 1) := by
          rw [sub_iff, sub_iff]
          constructor
          · intro q
            refine ⟨fun u hu => ?_, ?_⟩
            · rw [tb_xor] at hu
              by_cases e9 : i = u
              · rw [← e9, hb, decide_eq_true rfl] at hu; cases hu
              · rw [decide_eq_false e9, Bool.xor_false] at hu
                have := q u hu
                rw [red_tb hi hp, if_neg (Ne.symm e9)] at this
                exact this
            · have := q i hb
              rw [red_tb hi hp, if_pos rfl] at this
              exact of_decide_eq_true this
          · rintro ⟨q, q2⟩ u hu
            rw [red_tb hi hp]
            by_cases e9 : u = i
            · rw [if_pos e9, decide_eq_true q2]
            · rw [if_neg e9]
              exact q u (by rw [tb_xor, decide_eq_false (Ne.symm e9), Bool.xor_false]; exact hu)
        have hS : M - 2 ^ i < 512 := Nat.lt_of_le_of_lt (Nat.sub_le _ _) (by omega)
        rw [if_neg hM, vs_addN hS hlt (Nat.le_refl _), ih, aS_eq, sub_pow hi (by omega) hM, g5, g6, gS_gate (by omega) (by omega) (by omega) hp]
        show _ + (if _ then row M * lN (gOut t p) else 0) = _
        have hgo := gOut_lt (t := t) (p := p)
        by_cases q : (M ^^^ 2 ^ i) &&& p = M ^^^ 2 ^ i
        · rw [if_pos q]
          rcases (show gOut t p = 0 ∨ gOut t p = 1 by omega) with q2 | q2
          · rw [q2, if_neg (fun z => by have := (e.mp z).2; omega), show lN 0 = 0 from rfl, Int64.mul_zero, Int64.add_zero]
          · rw [q2, if_pos (e.mpr ⟨q, q2⟩), show lN 1 = 1 from rfl, Int64.mul_one]
        · rw [if_neg q, if_neg (fun z => q (e.mp z).1), Int64.add_zero]
/-- eliminating a gate is redirecting the values -/
theorem elim_vs {t : GT} {i p n : Nat} {row : Nat → Int64} (hn : n ≤ 9) (hi : i < n) (hg : gGood i t) (hp : p < 2 ^ n) : vsN (elimC row (2 ^ i) t.2.2.2.2.1 t.2.2.2.2.2) p (2 ^ n) = vsN row (red t i p) (2 ^ n) := by
  have h2 := p2_lt hn
  rw [← vs_cut hp h2, ← vs_cut (red_lt hn hi hp) h2]
  exact vs_elim (by omega) hg (by omega) (Nat.le_refl _)
/-! rows of small sets -/
def supp (row : Nat → Int64) (n : Nat) : Prop := ∀ s, 2 ^ n ≤ s → row s = 0
theorem supp_inc {f : Nat → Int64} {n k : Nat} {v : Int64} (h : supp f n) (hk : k < 2 ^ n) : supp (inc f k v) n := fun s hs => (va_up_ne _ _ (by omega)).trans (h s hs)
theorem supp_up {f : Nat → Int64} {n k : Nat} {v : Int64} (h : supp f n) (hk : k < 2 ^ n) : supp (va_up f k v) n := fun s hs => (va_up_ne _ _ (by omega)).trans (h s hs)
theorem supp_addN {f : Nat → Int64} {n S : Nat} {num : Int64} {ts : Nat → Nat} {tn : Nat → Int64} (h : supp f n) (hS : S < 2 ^ n) (hts : ∀ t, t < 8 → ts t < 2 ^ n) : ∀ {m : Nat}, m ≤ 8 → supp (addN f S num ts tn m) n
  | 0, _ => h
  | m + 1, hm => supp_inc (supp_addN h hS hts (m := m) (by omega)) (Nat.or_lt_two_pow hS (hts m (by omega)))
theorem wbit_lt2 {a i n : Nat} (ha : a < 2 * i + 2) (hi : i < n) : wbit a < 2 ^ n := by
  unfold wbit
  split
  · exact Nat.two_pow_pos n
  · exact p2_smono (by omega)
theorem gV_lt2 {a b c i n t : Nat} (ha : a < 2 * i + 2) (hb : b < 2 * i + 2) (hc : c < 2 * i + 2) (hi : i < n) : gV a b c t < 2 ^ n := by
  have h : ∀ x y, y < 2 ^ n → (x % 2) * y < 2 ^ n := fun x y hy => by
    rcases (show x % 2 = 0 ∨ x % 2 = 1 by omega) with e | e <;> rw [e] <;> omega
  unfold gV
  exact Nat.or_lt_two_pow (Nat.or_lt_two_pow (h _ _ (wbit_lt2 ha hi)) (h _ _ (wbit_lt2 hb hi))) (h _ _ (wbit_lt2 hc hi))
theorem supp_elim {row : Nat → Int64} {t : GT} {i n : Nat} (h : supp row n) (hi : i < n) (hg : gGood i t) : ∀ {M : Nat}, supp (elimN row (2 ^ i) t.2.2.2.2.1 t.2.2.2.2.2 M) n
  | 0 => fun _ _ => rfl
  | M + 1 => by
    have ih := supp_elim h hi hg (M := M)
    obtain ⟨g1, g2, g3, g4, g5, g6⟩ := hg
    simp only [elimN]
    split
    · exact ih
    · rename_i hr
      have hM : M < 2 ^ n := by
        rcases Nat.lt_or_ge M (2 ^ n) with q | q
        · exact q
        · exact absurd (h M q) hr
      split
      · exact supp_inc ih hM
      · exact supp_addN ih (Nat.lt_of_le_of_lt (Nat.sub_le _ _) hM) (fun t _ => by rw [g5]; exact gV_lt2 g2 g3 g4 hi) (Nat.le_refl _)
theorem supp_elimC {row : Nat → Int64} {t : GT} {i n : Nat} (h : supp row n) (hi : i < n) (hg : gGood i t) : supp (elimC row (2 ^ i) t.2.2.2.2.1 t.2.2.2.2.2) n := supp_elim h hi hg
theorem cntN_cut {f : Nat → Int64} {M : Nat} (h : ∀ s, M ≤ s → f s = 0) : ∀ {N : Nat}, M ≤ N → cntN f N = cntN f M
  | 0, hN => by rw [Nat.le_zero.mp hN]
  | N + 1, hN => by
    by_cases e : M = N + 1
    · rw [e]
    · simp only [cntN]
      rw [if_pos (h N (by omega)), cntN_cut h (N := N) (by omega)]
      rfl
theorem supp_cnt {f : Nat → Int64} {n : Nat} (hn : n ≤ 9) (h : supp f n) : cnt f = cntN f (2 ^ n) := cntN_cut h (p2_lt hn)
theorem supp_eqR {f g : Nat → Int64} {n : Nat} (hn : n ≤ 9) (hf : supp f n) (hg : supp g n) : eqR f g = eqN f g (2 ^ n) := by
  have h2 := p2_lt hn
  rw [Bool.eq_iff_iff]
  unfold eqR
  rw [eqN_iff, eqN_iff]
  constructor
  · exact fun q i hi => q i (by omega)
  · intro q i hi
    rcases Nat.lt_or_ge i (2 ^ n) with q2 | q2
    · exact q i q2
    · rw [hf i q2, hg i q2]
theorem monAt_cut {f : Nat → Int64} {M m : Nat} (h : ∀ s, M < s → f s = 0) : ∀ {N : Nat}, M ≤ N → monAt f N m = monAt f M m
  | 0, hN => by rw [Nat.le_zero.mp hN]
  | N + 1, hN => by
    by_cases e : M = N + 1
    · rw [e]
    · simp only [monAt]
      rw [if_pos (h (N + 1) (by omega)), monAt_cut h (N := N) (by omega)]
theorem supp_mon {f : Nat → Int64} {n m : Nat} (hn : n ≤ 9) (h : supp f n) : monAt f 511 m = monAt f (2 ^ n - 1) m := by
  have h2 := p2_lt hn
  exact monAt_cut (fun s hs => h s (by omega)) (by omega)
theorem popN_le (k : Nat) : popN k ≤ 9 := by rw [← mN_pop]; exact mN_le k 9
theorem lm_wt {f : Nat → Int64} : ∀ {i : Nat}, lmN f i = match wtN f i with
    | none => (0, 10)
    | some b => (b, popN b)
  | 0 => rfl
  | i + 1 => by
    have ih := lm_wt (f := f) (i := i)
    have hp := popN_le i
    simp only [lmN, wtN]
    by_cases h : f i = 0
    · rw [if_pos h, if_pos h]; exact ih
    · rw [if_neg h, if_neg h, ih]
      cases hw : wtN f i with
      | none =>
        dsimp only
        rw [if_pos (by omega)]
      | some b =>
        dsimp only
        by_cases q : popN i < popN b
        · rw [if_pos q, if_pos q]
        · rw [if_neg q, if_neg q]
theorem lmN_cut {f : Nat → Int64} {M : Nat} (h : ∀ s, M ≤ s → f s = 0) : ∀ {N : Nat}, M ≤ N → lmN f N = lmN f M
  | 0, hN => by rw [Nat.le_zero.mp hN]
  | N + 1, hN => by
    by_cases e : M = N + 1
    · rw [e]
    · simp only [lmN]
      rw [if_pos (h N (by omega)), lmN_cut h (N := N) (by omega)]
theorem wtN_none {f : Nat → Int64} : ∀ {i : Nat}, wtN f i = none → cntN f i = 0
  | 0, _ => rfl
  | i + 1, h => by
    simp only [wtN] at h
    simp only [cntN]
    split at h
    · rename_i h2
      rw [if_pos h2, wtN_none h]
    · split at h
      · cases h
      · split at h <;> cases h
/-- the least monomial of fewest wires, found twice -/
theorem supp_least {f : Nat → Int64} {n : Nat} (hn : n ≤ 9) (h : supp f n) (hc : ¬ cnt f = 0) : ∃ b, wtN f (2 ^ n) = some b ∧ (lmN f 512).1 = b := by
  have h1 := lm_wt (f := f) (i := 2 ^ n)
  rw [lmN_cut h (p2_lt hn)]
  cases hw : wtN f (2 ^ n) with
  | none => exact absurd ((supp_cnt hn h).trans (wtN_none hw)) hc
  | some b =>
    rw [hw] at h1
    exact ⟨b, rfl, by rw [h1]⟩
end
section
/-! a sparse line is the row it holds -/
def rwN (st : Nat → Nat) (nu : Nat → Int64) (b : Nat) : Nat → Nat → Int64
  | 0 => fun _ => 0
  | m + 1 => inc (rwN st nu b m) (st (b + m)) (nu (b + m))
section
variable {st si : Nat → Nat} {nu : Nat → Int64} {b : Nat}
theorem rwN_off {s : Nat} : ∀ {m : Nat}, (∀ j, j < m → ¬ st (b + j) = s) → rwN st nu b m s = 0
  | 0, _ => rfl
  | m + 1, h => (va_up_ne _ _ (fun z => h m (Nat.lt_succ_self m) z.symm)).trans (rwN_off (fun j hj => h j (by omega)))
theorem rwN_on : ∀ {m : Nat}, (∀ i j, i < m → j < m → st (b + i) = st (b + j) → i = j) → ∀ {j : Nat}, j < m → rwN st nu b m (st (b + j)) = nu (b + j)
  | 0, _, j, hj => absurd hj (Nat.not_lt_zero j)
  | m + 1, h, j, hj => by
    by_cases e : j = m
    · subst e
      have h0 : rwN st nu b j (st (b + j)) = 0 := rwN_off (fun i hi z => by
        have := h i j (by omega) (by omega) z
        omega)
      show inc (rwN st nu b j) (st (b + j)) (nu (b + j)) (st (b + j)) = _
      unfold inc
      rw [va_up_self, h0, Int64.zero_add]
    · have h1 : st (b + j) ≠ st (b + m) := fun z => e (h j m (by omega) (by omega) z)
      show inc (rwN st nu b m) (st (b + m)) (nu (b + m)) (st (b + j)) = _
      unfold inc
      rw [va_up_ne _ _ h1]
      exact rwN_on (fun i j hi hj => h i j (by omega) (by omega)) (by omega)
theorem rwN_vs {p : Nat} : ∀ {m : Nat}, (∀ j, j < m → st (b + j) < 512) → vsN (rwN st nu b m) p 512 = spN st nu b p m
  | 0, _ => vsN_zero
  | m + 1, h => by
    have ih := rwN_vs (p := p) (m := m) (fun j hj => h j (by omega))
    have h1 : vsN (rwN st nu b (m + 1)) p 512 = vsN (rwN st nu b m) p 512 + (if st (b + m) &&& p = st (b + m) then nu (b + m) else 0) := vs_inc (h m (by omega))
    rw [h1, ih]
    simp only [spN]
    by_cases q : st (b + m) &&& p = st (b + m)
    · rw [if_pos q, if_pos q]
    · rw [if_neg q, if_neg q, Int64.add_zero]
theorem LN_sp {n k p : Nat} {row : Nat → Int64} (hn : n ≤ 9) (hL : LN n si st nu k row) : spN st nu (40 * k) p (si k) = vsN row p 512 := by
  rw [← rwN_vs (hL.lt hn)]
  refine vsN_congr (fun s hs => ?_)
  by_cases h : ∃ i, i < si k ∧ st (40 * k + i) = s
  · obtain ⟨i, hi, rfl⟩ := h
    rw [rwN_on hL.2.2.2.2 hi]
    exact (hL.2.2.1 i hi).2.1
  · have h2 : ∀ i, i < si k → ¬ st (40 * k + i) = s := fun i hi z => h ⟨i, hi, z⟩
    rw [rwN_off h2, hL.zr hs h2]
/-! keeping a row -/
variable {wo : Nat → Int64}
theorem stK_off {q : Nat} : ∀ {i : Nat}, (q < b ∨ b + cntN wo i ≤ q) → stK st wo b i q = st q ∧ nuK nu wo b i q = nu q
  | 0, _ => ⟨rfl, rfl⟩
  | i + 1, h => by
    simp only [cntN] at h
    simp only [stK, nuK]
    by_cases h0 : wo i = 0
    · rw [if_pos h0] at h
      rw [if_pos h0, if_pos h0]
      exact stK_off h
    · rw [if_neg h0] at h
      rw [if_neg h0, if_neg h0, va_up_ne _ _ (by omega), va_up_ne _ _ (by omega)]
      exact stK_off (by omega)
theorem stK_in : ∀ {i j : Nat}, j < cntN wo i → stK st wo b i (b + j) < i ∧ nuK nu wo b i (b + j) = wo (stK st wo b i (b + j)) ∧ ¬ wo (stK st wo b i (b + j)) = 0
  | 0, j, h => absurd h (Nat.not_lt_zero j)
  | i + 1, j, h => by
    simp only [cntN] at h
    simp only [stK, nuK]
    by_cases h0 : wo i = 0
    · rw [if_pos h0] at h
      rw [if_pos h0, if_pos h0]
      obtain ⟨a, c, d⟩ := stK_in (i := i) (j := j) h
      exact ⟨by omega, c, d⟩
    · rw [if_neg h0] at h
      rw [if_neg h0, if_neg h0]
      by_cases e : j = cntN wo i
      · subst e
        rw [va_up_self, va_up_self]
        exact ⟨Nat.lt_succ_self i, rfl, h0⟩
      · rw [va_up_ne _ _ (by omega), va_up_ne _ _ (by omega)]
        obtain ⟨a, c, d⟩ := stK_in (i := i) (j := j) (by omega)
        exact ⟨by omega, c, d⟩
theorem stK_has : ∀ {i s : Nat}, s < i → ¬ wo s = 0 → ∃ j, j < cntN wo i ∧ stK st wo b i (b + j) = s
  | 0, s, h, _ => absurd h (Nat.not_lt_zero s)
  | i + 1, s, h, hs => by
    simp only [cntN, stK]
    by_cases h0 : wo i = 0
    · have hne : s ≠ i := fun z => hs (by rw [z]; exact h0)
      obtain ⟨j, hj, q⟩ := stK_has (i := i) (s := s) (by omega) hs
      refine ⟨j, by omega, ?_⟩
      rw [if_pos h0]
      exact q
    · by_cases e : s = i
      · subst e
        refine ⟨cntN wo s, by rw [if_neg h0]; omega, ?_⟩
        rw [if_neg h0, va_up_self]
      · obtain ⟨j, hj, q⟩ := stK_has (i := i) (s := s) (by omega) hs
        refine ⟨j, by omega, ?_⟩
        rw [if_neg h0, va_up_ne _ _ (by omega)]
        exact q
theorem stK_inj : ∀ {i j k : Nat}, j < cntN wo i → k < cntN wo i → stK st wo b i (b + j) = stK st wo b i (b + k) → j = k
  | 0, j, k, h, _, _ => absurd h (Nat.not_lt_zero j)
  | i + 1, j, k, h, h', q => by
    simp only [cntN] at h h'
    simp only [stK] at q
    by_cases h0 : wo i = 0
    · rw [if_pos h0] at h h' q
      exact stK_inj h h' q
    · rw [if_neg h0] at h h' q
      by_cases e : j = cntN wo i
      · by_cases e2 : k = cntN wo i
        · rw [e, e2]
        · subst e
          rw [va_up_self, va_up_ne _ _ (by omega)] at q
          have := (stK_in (st := st) (nu := fun _ => 0) (b := b) (wo := wo) (i := i) (j := k) (by omega)).1
          omega
      · by_cases e2 : k = cntN wo i
        · subst e2
          rw [va_up_self, va_up_ne _ _ (by omega)] at q
          have := (stK_in (st := st) (nu := fun _ => 0) (b := b) (wo := wo) (i := i) (j := j) (by omega)).1
          omega
        · rw [va_up_ne _ _ (by omega), va_up_ne _ _ (by omega)] at q
          exact stK_inj (by omega) (by omega) q
theorem LN_keep {n k : Nat} {E : Nat → Int64} (hn : n ≤ 9) (hE : supp E n) (hw : ∀ s, s < 2 ^ n → wo s = E s) (hc : cnt E ≤ 40) : LN n (va_up si k (cntN wo (2 ^ n))) (stK st wo (40 * k) (2 ^ n)) (nuK nu wo (40 * k) (2 ^ n)) k E := by
  have h1 : cntN wo (2 ^ n) = cnt E := (cntN_congr hw).trans (supp_cnt hn hE).symm
  refine ⟨by rw [va_up_self, h1]; exact hc, by rw [va_up_self, h1], ?_, ?_, ?_⟩
  · intro i hi
    rw [va_up_self] at hi
    obtain ⟨a, c, d⟩ := stK_in (st := st) (nu := nu) (b := 40 * k) hi
    refine ⟨a, ?_, ?_⟩
    · rw [c, hw _ a]
    · rw [← hw _ a]; exact d
  · intro s hs hr
    have h2 : s < 2 ^ n := by
      rcases Nat.lt_or_ge s (2 ^ n) with q | q
      · exact q
      · exact absurd (hE s q) hr
    obtain ⟨j, hj, q⟩ := stK_has (st := st) (wo := wo) (b := 40 * k) h2 (by rw [hw s h2]; exact hr)
    exact ⟨j, by rw [va_up_self]; exact hj, q⟩
  · intro i j hi hj q
    rw [va_up_self] at hi hj
    exact stK_inj hi hj q
theorem OL_keep {n k : Nat} (hc : cntN wo (2 ^ n) ≤ 40) : OL si st nu (va_up si k (cntN wo (2 ^ n))) (stK st wo (40 * k) (2 ^ n)) (nuK nu wo (40 * k) (2 ^ n)) k := by
  intro q hq
  refine ⟨va_up_ne _ _ hq, fun j hj => (stK_off (nu := nu) ?_).1, fun j hj => (stK_off (st := st) ?_).2⟩ <;> omega
theorem cntN_mono {i j : Nat} (h : i ≤ j) : cntN wo i ≤ cntN wo j := by
  induction j with
  | zero => rw [Nat.le_zero.mp h]; exact Nat.le_refl _
  | succ j ih =>
    by_cases e : i = j + 1
    · rw [e]; exact Nat.le_refl _
    · have := ih (by omega)
      simp only [cntN]
      omega
end
/-! the lines of a proof -/
def rwsK (inp n : Nat) (gt : Nat → GT) (cl : Nat → Int64) : Nat → Nat → Int64
  | 0 => cl
  | k + 1 => elimC (rwsK inp n gt cl k) (2 ^ (gwN inp n (k + 1) - 1)) (gt (gwN inp n (k + 1) - 1)).2.2.2.2.1 (gt (gwN inp n (k + 1) - 1)).2.2.2.2.2
def rgK (inp n : Nat) (gt : Nat → GT) (pr : Nat → Nat → Int64) (j : Nat) : Bool := eqR (pr j) (elimC (pr (j - 1)) (2 ^ (gwN inp n j - 1)) (gt (gwN inp n j - 1)).2.2.2.2.1 (gt (gwN inp n j - 1)).2.2.2.2.2)
def rgA (inp n : Nat) (gt : Nat → GT) (cl : Nat → Int64) (pr : Nat → Nat → Int64) (j : Nat) : Bool := if j = 0 then eqR (pr 0) cl else rgK inp n gt pr j
section
variable {inp n : Nat} {gt : Nat → GT} {cl : Nat → Int64}
theorem gw_ok : ∀ {w k : Nat}, 0 < k → k ≤ ngN inp w → ∃ v, v < w ∧ inp &&& 2 ^ v = 0 ∧ gwN inp w k = v + 1
  | 0, k, h, h2 => by
    simp only [ngN] at h2
    omega
  | w + 1, k, h, h2 => by
    simp only [ngN] at h2
    simp only [gwN]
    by_cases hg : inp &&& 2 ^ w = 0
    · rw [if_pos hg] at h2
      rw [if_pos hg]
      by_cases hk : k - 1 = 0
      · rw [if_pos hk]
        exact ⟨w, Nat.lt_succ_self w, hg, rfl⟩
      · rw [if_neg hk]
        obtain ⟨v, a, c, d⟩ := gw_ok (w := w) (k := k - 1) (by omega) (by omega)
        exact ⟨v, by omega, c, d⟩
    · rw [if_neg hg] at h2
      rw [if_neg hg, if_neg (by omega)]
      obtain ⟨v, a, c, d⟩ := gw_ok (w := w) (k := k) h h2
      exact ⟨v, by omega, c, d⟩
theorem gw_g1 {w : Nat} (hg : inp &&& 2 ^ w = 0) : gwN inp (w + 1) 1 = w + 1 := by
  simp only [gwN]
  rw [if_pos hg, if_pos rfl]
theorem gw_gs {w j : Nat} (hg : inp &&& 2 ^ w = 0) (hj : 0 < j) : gwN inp (w + 1) (1 + j) = gwN inp w j := by
  simp only [gwN]
  rw [if_pos hg, if_neg (by omega), show 1 + j - 1 = j by omega]
theorem gw_n {w j : Nat} (hg : ¬ inp &&& 2 ^ w = 0) (hj : 0 < j) : gwN inp (w + 1) j = gwN inp w j := by
  simp only [gwN]
  rw [if_neg hg, if_neg (by omega)]
theorem prv_spec : ∀ {w last : Nat} {pr : Nat → Nat → Int64}, (∀ j, 0 < j → gwN inp n (last + j) = gwN inp w j) → (∀ j, j ≤ last → pr j = rwsK inp n gt cl j) → ∀ {b : Bool} {lst : Nat} {pr2 : Nat → Nat → Int64}, prvN inp gt w last pr = (b, lst, pr2) → (b = true → lst = last + ngN inp w ∧ (∀ j, j ≤ lst → pr2 j = rwsK inp n gt cl j) ∧ (∀ j, last < j → j ≤ lst → cnt (rwsK inp n gt cl j) ≤ 40)) ∧ (b = false → ∃ j, last < j ∧ j ≤ last + ngN inp w ∧ 40 < cnt (rwsK inp n gt cl j))
  | 0, last, pr, hg, hp, b, lst, pr2, e => by
    simp only [prvN, Prod.mk.injEq] at e
    obtain ⟨rfl, rfl, rfl⟩ := e
    exact ⟨fun _ => ⟨rfl, hp, fun j h1 h2 => by omega⟩, fun z => by cases z⟩
  | w + 1, last, pr, hg, hp, b, lst, pr2, e => by
    simp only [prvN] at e
    simp only [ngN]
    by_cases hgt : inp &&& 2 ^ w = 0
    · rw [if_pos hgt] at e
      rw [if_pos hgt]
      have e1 : gwN inp n (last + 1) = w + 1 := (hg 1 (by decide)).trans (gw_g1 hgt)
      have er : rwsK inp n gt cl (last + 1) = elimC (pr last) (2 ^ w) (gt w).2.2.2.2.1 (gt w).2.2.2.2.2 := by
        simp only [rwsK]
        rw [e1, Nat.add_sub_cancel, hp last (Nat.le_refl _)]
      rw [← er] at e
      by_cases hc : cnt (rwsK inp n gt cl (last + 1)) ≤ 40
      · rw [if_pos hc] at e
        have hg2 : ∀ j, 0 < j → gwN inp n (last + 1 + j) = gwN inp w j := fun j hj => by
          rw [Nat.add_assoc, hg (1 + j) (by omega), gw_gs hgt hj]
        have hp2 : ∀ j, j ≤ last + 1 → va_up pr (last + 1) (rwsK inp n gt cl (last + 1)) j = rwsK inp n gt cl j := fun j hj => by
          by_cases ej : j = last + 1
          · rw [ej, va_up_self]
          · rw [va_up_ne _ _ ej, hp j (by omega)]
        obtain ⟨a, c⟩ := prv_spec hg2 hp2 e
        refine ⟨fun hb => ?_, fun hb => ?_⟩
        · obtain ⟨a1, a2, a3⟩ := a hb
          refine ⟨by omega, a2, fun j h1 h2 => ?_⟩
          by_cases ej : j = last + 1
          · rw [ej]; exact hc
          · exact a3 j (by omega) h2
        · obtain ⟨j, c1, c2, c3⟩ := c hb
          exact ⟨j, by omega, by omega, c3⟩
      · rw [if_neg hc, Prod.mk.injEq] at e
        obtain ⟨rfl, -⟩ := e
        exact ⟨fun z => (by cases z), fun _ => ⟨last + 1, by omega, by omega, by omega⟩⟩
    · rw [if_neg hgt] at e
      rw [if_neg hgt]
      exact prv_spec (fun j hj => (hg j hj).trans (gw_n hgt hj)) hp e
theorem chk_spec {pr : Nat → Nat → Int64} : ∀ {w line : Nat}, (∀ j, 0 < j → gwN inp n (line + j) = gwN inp w j) → (chkN inp gt pr w line = none → ∀ j, line < j → j ≤ line + ngN inp w → rgK inp n gt pr j = true) ∧ (∀ k, chkN inp gt pr w line = some k → line < k ∧ k ≤ line + ngN inp w ∧ rgK inp n gt pr k = false ∧ ∀ j, line < j → j < k → rgK inp n gt pr j = true)
  | 0, line, hg => ⟨fun _ j h1 h2 => by simp only [ngN] at h2; omega, fun k h => by cases h⟩
  | w + 1, line, hg => by
    simp only [chkN, ngN]
    by_cases hgt : inp &&& 2 ^ w = 0
    · rw [if_pos hgt, if_pos hgt]
      have e1 : gwN inp n (line + 1) = w + 1 := (hg 1 (by decide)).trans (gw_g1 hgt)
      have er : rgK inp n gt pr (line + 1) = eqR (pr (line + 1)) (elimC (pr line) (2 ^ w) (gt w).2.2.2.2.1 (gt w).2.2.2.2.2) := by
        unfold rgK
        rw [e1, Nat.add_sub_cancel, Nat.add_sub_cancel]
      rw [← er]
      have hg2 : ∀ j, 0 < j → gwN inp n (line + 1 + j) = gwN inp w j := fun j hj => by
        rw [Nat.add_assoc, hg (1 + j) (by omega), gw_gs hgt hj]
      obtain ⟨a, c⟩ := chk_spec hg2
      by_cases hr : rgK inp n gt pr (line + 1) = true
      · rw [if_pos hr]
        refine ⟨fun h j h1 h2 => ?_, fun k h => ?_⟩
        · by_cases ej : j = line + 1
          · rw [ej]; exact hr
          · exact a h j (by omega) (by omega)
        · obtain ⟨c1, c2, c3, c4⟩ := c k h
          refine ⟨by omega, by omega, c3, fun j h1 h2 => ?_⟩
          by_cases ej : j = line + 1
          · rw [ej]; exact hr
          · exact c4 j (by omega) h2
      · rw [if_neg hr]
        refine ⟨fun h => (by cases h), fun k h => ?_⟩
        cases h
        exact ⟨by omega, by omega, Bool.eq_false_iff.mpr hr, fun j h1 h2 => by omega⟩
    · rw [if_neg hgt, if_neg hgt]
      exact chk_spec (fun j hj => (hg j hj).trans (gw_n hgt hj))
/-- the first line that isn't right -/
theorem chk_first {pr : Nat → Nat → Int64} {li c : Nat} (hli : li = ngN inp n + 1) (hc : c ≤ li) (h1 : ∀ j, j < c → rgA inp n gt cl pr j = true) (h2 : c < li → rgA inp n gt cl pr c = false) : (if eqR (pr 0) cl = true then (chkN inp gt pr n 0).getD li else 0) = c := by
  obtain ⟨a, b⟩ := chk_spec (inp := inp) (n := n) (gt := gt) (pr := pr) (w := n) (line := 0) (fun j _ => by rw [Nat.zero_add])
  have e0 : rgA inp n gt cl pr 0 = eqR (pr 0) cl := if_pos rfl
  have eK : ∀ j, 0 < j → rgA inp n gt cl pr j = rgK inp n gt pr j := fun j hj => if_neg (by omega)
  by_cases hq : eqR (pr 0) cl = true
  · rw [if_pos hq]
    have hc0 : 0 < c := by
      rcases Nat.eq_zero_or_pos c with z | z
      · have := h2 (by omega)
        rw [z, e0, hq] at this
        cases this
      · exact z
    cases hk : chkN inp gt pr n 0 with
    | none =>
      show li = c
      rcases Nat.lt_or_ge c li with z | z
      · have := h2 z
        rw [eK c hc0, a hk c hc0 (by omega)] at this
        cases this
      · omega
    | some k =>
      show k = c
      obtain ⟨b1, b2, b3, b4⟩ := b k hk
      rcases Nat.lt_trichotomy k c with z | z | z
      · have := h1 k z
        rw [eK k b1, b3] at this
        cases this
      · exact z
      · have := h2 (by omega)
        rw [eK c hc0, b4 c hc0 z] at this
        cases this
  · rw [if_neg hq]
    rcases Nat.eq_zero_or_pos c with z | z
    · exact z.symm
    · have := h1 0 z
      rw [e0] at this
      exact absurd this hq
theorem rws_supp (hgd : ∀ i, i < n → inp &&& 2 ^ i = 0 → gGood i (gt i)) (hcl : supp cl n) : ∀ {k : Nat}, k ≤ ngN inp n → supp (rwsK inp n gt cl k) n
  | 0, _ => hcl
  | k + 1, h => by
    obtain ⟨v, a, b, c⟩ := gw_ok (inp := inp) (w := n) (k := k + 1) (by omega) h
    simp only [rwsK]
    rw [c, Nat.add_sub_cancel]
    exact supp_elimC (rws_supp hgd hcl (by omega)) a (hgd v a b)
end
end
section
section
variable {l : Launch} {D : va_G} {dA ad sa : Nat → Nat} {L : List Nat} {hp : Nat → KE} {th wi an li inp : Nat} {ki fi se tr : Nat → Int32} {cl : Nat → Int64} {si st : Nat → Nat} {nu wo fr : Nat → Int64} {gt : Nat → GT} {rs : Nat → Nat → Int64}
theorem c_X3_right (hW : KF ad L) (h : MR hp th wi an li ki fi se tr cl si st nu wo fr) (hn : wi ≤ 9) (hM : MGs wi inp gt ki fi se tr) (hgd : ∀ i, i < wi → inp &&& 2 ^ i = 0 → gGood i (gt i)) (hcl : supp cl wi) (hsu : ∀ k, k < li → supp (rs k) wi) (hLN : ∀ k, k < li → LN wi si st nu k (rs k)) (hli : li = ngN inp wi + 1) (k : Nat) (hk : k < li) : KM l yX3_right cX3_right 4 (some .boolean) (rmK 4 0 0) D dA ad sa L [.ref 54, .int (nI k)] hp
    (fun r hp' => r = some (.int (bI (rgA inp wi gt cl rs k))) ∧ (∃ wo2 fr2, MR hp' th wi an li ki fi se tr cl si st nu wo2 fr2) ∧ FM hp hp') := by
  refine KM.of rfl ok_X3_right (len_of rfl) hW.1.1 hW.1.2 ?_
  intro p e s m args below meth c A hC hN
  have h0 := hW.2 54 (by decide)
  have h109 := hW.2 63 (by decide)
  have hp2 := p2_lt hn
  have hng := ngN_le inp wi
  have hLk := hLN k hk
  have hT : ∃ T : Nat → Int64, rgA inp wi gt cl rs k = eqN (rs k) T (2 ^ wi) ∧ (k = 0 → T = cl) ∧ (∀ v, 0 < k → v < wi → gwN inp wi k = v + 1 → T = elimC (rs (k - 1)) (2 ^ v) (gt v).2.2.2.2.1 (gt v).2.2.2.2.2) := by
    by_cases hk0 : k = 0
    · refine ⟨cl, ?_, fun _ => rfl, fun v h1 => by omega⟩
      unfold rgA
      rw [if_pos hk0, ← supp_eqR hn (hsu k hk) hcl, hk0]
    · obtain ⟨v, v1, v2, v3⟩ := gw_ok (inp := inp) (w := wi) (k := k) (by omega) (by omega)
      refine ⟨elimC (rs (k - 1)) (2 ^ v) (gt v).2.2.2.2.1 (gt v).2.2.2.2.2, ?_, fun z => absurd z hk0, fun v9 _ _ h2 => ?_⟩
      · unfold rgA rgK
        rw [if_neg hk0, v3, Nat.add_sub_cancel, ← supp_eqR hn (hsu k hk) (supp_elimC (hsu (k - 1) (by omega)) v1 (hgd v v1 v2))]
      · have : v9 = v := by omega
        rw [this]
  obtain ⟨T, hT1, hT2, hT3⟩ := hT
  rw [hT1]
  have hU : ∀ w9 : Nat → Int64, MR (va_up hp 63 (kJ 512 w9)) th wi an li ki fi se tr cl si st nu w9 fr := fun w9 => h.s_wo
  refine g_run hC 2 rfl ?_
  refine g_cutA (ι := (Nat → KE) × (Nat → Int64) × (Nat → Int64)) (fun x => MR x.1 th wi an li ki fi se tr cl si st nu x.2.1 x.2.2 ∧ FM hp x.1 ∧ ∀ q, q < 2 ^ wi → x.2.1 q = T q) (fun x => x.1) 51 (fun _ => [(0, .ref 54), (1, .int (nI k))]) (fun _ => []) ?_ (fun t51 => ?_)
  · rintro ⟨hp1, wo1, fr1⟩ ⟨m1, f1, hw⟩
    dsimp only at m1 f1 hw ⊢
    refine g_run hC 4 rfl ?_
    refine g_loop 0 (2 ^ wi) (fun _ => hp1) (fun q => [(0, .ref 54), (1, .int (nI k)), (2, .int (bI (eqN (rs k) T q))), (3, .int (nI q))]) (Nat.zero_le _) rfl ⟨rfl, rfl, rfl, rfl, trivial⟩ ?_ ?_
    · intro q _ hq ih
      refine g_run hC 3 rfl ?_
      refine g_get hC rfl F_X3_45 h0 m1.g100 rfl ?_
      refine g_run hC 1 rfl ?_
      refine g_top (nI (2 ^ wi)) (shl_1 wi (by omega)) ?_
      refine g_icge (tgt := 97) hC rfl (by decide) (fun h1 => ?_) (fun _ => ?_)
      · exact absurd ((nI_leI (a := 2 ^ wi) (b := q) (by omega) (by omega)).mp h1) (by omega)
      refine g_cutA (ι := Unit) (fun _ => True) (fun _ => hp1) 90 (fun _ => [(0, .ref 54), (1, .int (nI k)), (3, .int (nI q))]) (fun _ => [.int (bI (eqN (rs k) T (q + 1)))]) ?_ (fun t90 => ?_)
      · intro _ _
        refine g_run hC 3 rfl ?_
        exact g_lvs ih ⟨rfl, rfl, rfl, sI (nI_s q), trivial⟩
      simp only [eqN] at t90
      refine g_run hC 1 rfl ?_
      cases hb : eqN (rs k) T q with
      | false =>
        rw [hb, Bool.false_and] at t90
        refine g_ifeq (tgt := 89) hC rfl (by decide) (fun _ => ?_) (fun h2 => absurd rfl h2)
        refine g_run hC 1 rfl ?_
        exact g_lvs (t90 () trivial) ⟨rfl, rfl, rfl, trivial⟩
      | true =>
        rw [hb, Bool.true_and] at t90
        refine g_ifeq (tgt := 89) hC rfl (by decide) (fun h2 => absurd h2 (by decide)) (fun _ => ?_)
        refine g_run hC 1 rfl ?_
        refine g_get hC rfl F_X3_35 h0 m1.g100 rfl ?_
        refine g_run hC 1 rfl ?_
        refine g_lld hC q rfl h109 m1.g109 rfl (by omega) (by decide) ?_
        refine g_run hC 3 rfl ?_
        refine g_callV hC hN [.int (nI k), .int (nI q)] (c_X3_has hW m1 hn k q (rs k) (by omega) hLk (by omega)) rfl M_X3_113 h0 m1.g100 rfl rfl (len_of rfl) (by decide) (by decide) ?_
        rintro r hp2 ⟨rfl, rfl⟩
        refine g_run hC 1 rfl ?_
        refine g_ifne (tgt := 89) hC rfl (by decide) (fun h3 => ?_) (fun h3 => ?_)
        · have h4 : ¬ wo1 q = rs k q := fun z => h3 ((cmp0 _ _).mpr z)
          rw [decide_eq_false (fun z => h4 ((hw q hq).trans z.symm))] at t90
          refine g_run hC 1 rfl ?_
          exact g_lvs (t90 () trivial) ⟨rfl, rfl, rfl, trivial⟩
        · have h4 := (cmp0 _ _).mp h3
          rw [decide_eq_true (h4.symm.trans (hw q hq))] at t90
          refine g_run hC 2 rfl ?_
          exact g_lvs (t90 () trivial) ⟨rfl, rfl, rfl, trivial⟩
    · refine g_run hC 3 rfl ?_
      refine g_get hC rfl F_X3_45 h0 m1.g100 rfl ?_
      refine g_run hC 1 rfl ?_
      refine g_top (nI (2 ^ wi)) (shl_1 wi (by omega)) ?_
      refine g_icge (tgt := 97) hC rfl (by decide) (fun _ => ?_) (fun h1 => absurd (Int32.le_refl _) h1)
      refine g_run hC 1 rfl ?_
      exact g_zret hC (nar_b _) rfl rfl ⟨rfl, ⟨_, _, m1⟩, f1⟩ (Nat.le_refl _) (Nat.le_refl _)
  · refine g_loop 0 (2 ^ wi) (fun q => va_up hp 63 (kJ 512 (fun j => if j < q then cl j else wo j))) (fun q => [(0, .ref 54), (1, .int (nI k)), (2, .int (nI q))]) (Nat.zero_le _) ?_ ⟨rfl, rfl, rfl, trivial⟩ ?_ ?_
    · rw [show (fun j => if j < 0 then cl j else wo j) = wo from by funext j; simp]
      exact (up_same h.g109).symm
    · intro q _ hq ih
      refine g_run hC 3 rfl ?_
      refine g_get hC rfl F_X3_45 h0 (hU _).g100 rfl ?_
      refine g_run hC 1 rfl ?_
      refine g_top (nI (2 ^ wi)) (shl_1 wi (by omega)) ?_
      refine g_icge (tgt := 30) hC rfl (by decide) (fun h1 => ?_) (fun _ => ?_)
      · exact absurd ((nI_leI (a := 2 ^ wi) (b := q) (by omega) (by omega)).mp h1) (by omega)
      refine g_run hC 1 rfl ?_
      refine g_get hC rfl F_X3_35 h0 (hU _).g100 rfl ?_
      refine g_run hC 2 rfl ?_
      refine g_get hC rfl F_X3_22 h0 (hU _).g100 rfl ?_
      refine g_run hC 1 rfl ?_
      refine g_lld hC q rfl (hW.2 59 (by decide)) (hU _).g105 rfl (by omega) (by decide) ?_
      refine g_lst hC q rfl h109 (hU _).g109 rfl (by omega) (by decide) ?_
      refine g_run hC 2 rfl ?_
      refine g_hp ?_ (g_lvs ih ⟨rfl, rfl, sI (nI_s q), trivial⟩)
      rw [up_up]
      congr 2
      funext j
      by_cases hj : j = q
      · subst hj; rw [va_up_self, if_pos (by omega)]
      · rw [va_up_ne _ _ hj]
        by_cases h5 : j < q
        · rw [if_pos h5, if_pos (by omega)]
        · rw [if_neg h5, if_neg (by omega)]
    · refine g_run hC 3 rfl ?_
      refine g_get hC rfl F_X3_45 h0 (hU _).g100 rfl ?_
      refine g_run hC 1 rfl ?_
      refine g_top (nI (2 ^ wi)) (shl_1 wi (by omega)) ?_
      refine g_icge (tgt := 30) hC rfl (by decide) (fun _ => ?_) (fun h1 => absurd (Int32.le_refl _) h1)
      refine g_run hC 1 rfl ?_
      have m2 := hU (fun j => if j < 2 ^ wi then cl j else wo j)
      have f2 : FM hp (va_up hp 63 (kJ 512 (fun j => if j < 2 ^ wi then cl j else wo j))) := FM.up (by decide) (by decide)
      refine g_ifle (tgt := 51) hC rfl (by decide) (fun h1 => ?_) (fun h1 => ?_)
      · have hk0 : k = 0 := Nat.le_zero.mp ((nI_leI (a := k) (b := 0) (by omega) (by decide)).mp h1)
        refine g_lvs (t51 (_, _, _) ⟨m2, f2, fun q hq => ?_⟩) ⟨rfl, rfl, trivial⟩
        refine Eq.trans (if_pos hq : (if q < 2 ^ wi then cl q else wo q) = cl q) ?_
        rw [hT2 hk0]
      · have hk0 : 0 < k := by
          rcases Nat.eq_zero_or_pos k with z | z
          · exact absurd (by rw [z]; decide) h1
          · exact z
        obtain ⟨v, v1, v2, v3⟩ := gw_ok (inp := inp) (w := wi) (k := k) hk0 (by omega)
        have hTv := hT3 v hk0 v1 v3
        have hL1 := hLN (k - 1) (by omega)
        refine g_run hC 4 rfl ?_
        refine g_top (nI (k - 1)) (pk_sub (a := k) (b := 1) (by omega)) ?_
        refine g_callV hC hN [.int (nI (k - 1))] (c_X3_values hW m2 hn (k - 1) (by omega) hL1.1 (hL1.lt hn)) rfl M_X3_117 h0 m2.g100 rfl rfl (len_of rfl) (by decide) (by decide) ?_
        rintro r hp3 ⟨rfl, ⟨fr3, m3, hfr⟩, f3⟩
        refine g_run hC 3 rfl ?_
        refine g_callV hC hN [.int (nI k)] (c_X3_gateWire hW m3 hn hM hgd k hk0 (by omega)) rfl M_X3_96 h0 m3.g100 rfl rfl (len_of rfl) (by decide) (by decide) ?_
        rintro r hp4 ⟨rfl, rfl⟩
        rw [v3]
        refine g_callV hC hN [.int (nI (v + 1))] (c_X3_eliminated hW m3 hn v v1 ((hM v v1).1 v2) (hgd v v1 v2)) rfl M_X3_99 h0 m3.g100 rfl rfl (len_of rfl) (by decide) (by decide) ?_
        rintro r hp5 ⟨wo5, fr5, e1, ⟨w1, e2, e3⟩, rfl, m5, f5⟩
        refine g_run hC 1 rfl ?_
        refine g_lvs (t51 (hp5, wo5, fr5) ⟨m5, (f2.tr f3).tr f5, fun q hq => ?_⟩) ⟨rfl, rfl, trivial⟩
        dsimp only
        rw [e3, hTv]
        refine mob_inv (fun x hx => ?_) hq
        have hrx := red_lt (t := gt v) hn v1 hx
        rw [e2 x hx, hfr _ hrx, LN_sp hn hL1, vs_cut hrx hp2, elim_vs hn v1 (hgd v v1 v2) hx]
theorem c_X3_check (hW : KF ad L) (h : MR hp th wi an li ki fi se tr cl si st nu wo fr) (hn : wi ≤ 9) (hM : MGs wi inp gt ki fi se tr) (hgd : ∀ i, i < wi → inp &&& 2 ^ i = 0 → gGood i (gt i)) (hcl : supp cl wi) (hsu : ∀ k, k < li → supp (rs k) wi) (hLN : ∀ k, k < li → LN wi si st nu k (rs k)) (hli : ¬ li = 0 → li = ngN inp wi + 1) : KM l yX3_check cX3_check 2 (some .int) (rmK 5 0 0) D dA ad sa L [.ref 54] hp
    (fun r hp' => (∃ t wo2 fr2, MR hp' t wi an li ki fi se tr cl si st nu wo2 fr2 ∧ ((li = 0 ∧ t = 1 ∧ ∃ v, r = some (.int v)) ∨ (¬ li = 0 ∧ t = 0 ∧ r = some (.int (nI (if eqR (rs 0) cl = true then (chkN inp gt rs wi 0).getD li else 0)))))) ∧ FM hp hp') := by
  refine KM.of rfl ok_X3_check (len_of rfl) hW.1.1 hW.1.2 ?_
  intro p e s m args below meth c A hC hN
  have h0 := hW.2 54 (by decide)
  refine g_run hC 2 rfl ?_
  refine g_get hC rfl F_X3_52 h0 h.g100 rfl ?_
  by_cases hl0 : li = 0
  · refine g_ifne (tgt := 12) hC rfl (by decide) (fun h1 => absurd (by rw [hl0]; rfl) h1) (fun _ => ?_)
    refine g_run hC 2 rfl ?_
    refine g_putI hC rfl F_X3_41 h0 h.g100 (len_of rfl) rfl rfl ?_
    have h2 := h.obj (th2 := 1) (wi2 := wi) (an2 := an) (li2 := li)
    refine g_run hC 4 rfl ?_
    refine g_get hC rfl F_X3_52 h0 h2.g100 rfl ?_
    refine g_icge (tgt := 40) hC rfl (by decide) (fun _ => ?_) (fun h1 => absurd (by rw [hl0]; decide) h1)
    refine g_run hC 1 rfl ?_
    exact g_iret hC rfl rfl ⟨⟨_, _, _, h2, Or.inl ⟨hl0, rfl, _, rfl⟩⟩, FM.up (by decide) (by decide)⟩ (Nat.le_refl _) (Nat.le_refl _)
  · have hlg := hli hl0
    have hng := ngN_le inp wi
    refine g_ifne (tgt := 12) hC rfl (by decide) (fun _ => ?_) (fun h1 => absurd ((nI_z (by omega)).mp h1) hl0)
    refine g_run hC 1 rfl ?_
    refine g_putI hC rfl F_X3_41 h0 h.g100 (len_of rfl) rfl rfl ?_
    have h2 := h.obj (th2 := 0) (wi2 := wi) (an2 := an) (li2 := li)
    refine g_run hC 2 rfl ?_
    refine g_ind (σ := Nat × (Nat → KE) × (Nat → Int64) × (Nat → Int64)) (fun x => li - x.1) (fun x => x.1 ≤ li ∧ MR x.2.1 0 wi an li ki fi se tr cl si st nu x.2.2.1 x.2.2.2 ∧ FM hp x.2.1 ∧ ∀ j, j < x.1 → rgA inp wi gt cl rs j = true) (fun x => x.2.1) (fun x => [(0, .ref 54), (1, .int (nI x.1))]) (0, _, wo, fr) ⟨Nat.zero_le _, h2, FM.up (by decide) (by decide), fun j hj => absurd hj (Nat.not_lt_zero j)⟩ rfl ⟨rfl, rfl, trivial⟩ ?_
    rintro ⟨k, hp1, wo1, fr1⟩ ⟨hk, m1, f1, hr⟩ ih
    dsimp only at hk m1 f1 hr ih ⊢
    refine g_run hC 2 rfl ?_
    refine g_get hC rfl F_X3_52 h0 m1.g100 rfl ?_
    refine g_icge (tgt := 40) hC rfl (by decide) (fun h1 => ?_) (fun h1 => ?_)
    · have h3 := (nI_leI (a := li) (b := k) (by omega) (by omega)).mp h1
      refine g_run hC 1 rfl ?_
      refine g_iret hC rfl rfl ⟨⟨_, _, _, m1, Or.inr ⟨hl0, rfl, ?_⟩⟩, f1⟩ (Nat.le_refl _) (Nat.le_refl _)
      rw [chk_first hlg hk hr (fun z => by omega)]
    · have h3 : ¬ li ≤ k := fun z => h1 ((nI_leI (a := li) (b := k) (by omega) (by omega)).mpr z)
      refine g_run hC 2 rfl ?_
      refine g_callV hC hN [.int (nI k)] (c_X3_right hW m1 hn hM hgd hcl hsu hLN hlg k (by omega)) rfl M_X3_120 h0 m1.g100 rfl rfl (len_of rfl) (by decide) (by decide) ?_
      rintro r hp2 ⟨rfl, ⟨wo2, fr2, m2⟩, f2⟩
      cases hb : rgA inp wi gt cl rs k with
      | false =>
        refine g_ifeq (tgt := 40) hC rfl (by decide) (fun _ => ?_) (fun h4 => absurd rfl h4)
        refine g_run hC 1 rfl ?_
        refine g_iret hC rfl rfl ⟨⟨_, _, _, m2, Or.inr ⟨hl0, rfl, ?_⟩⟩, f1.tr f2⟩ (Nat.le_refl _) (Nat.le_refl _)
        rw [chk_first hlg hk hr (fun _ => hb)]
      | true =>
        refine g_ifeq (tgt := 40) hC rfl (by decide) (fun h4 => absurd h4 (by decide)) (fun _ => ?_)
        refine g_run hC 2 rfl ?_
        refine g_lvs (ih (k + 1, hp2, wo2, fr2) ⟨by dsimp only; omega, m2, f1.tr f2, fun j hj => ?_⟩ (by dsimp only; omega)) ⟨rfl, sI (nI_s k), trivial⟩
        dsimp only at hj
        by_cases ej : j = k
        · rw [ej]; exact hb
        · exact hr j (by omega)
end
end
section
section
variable {l : Launch} {D : va_G} {dA ad sa : Nat → Nat} {L : List Nat} {hp : Nat → KE} {th wi an li inp : Nat} {ki fi se tr : Nat → Int32} {cl : Nat → Int64} {si st : Nat → Nat} {nu wo fr : Nat → Int64} {gt : Nat → GT} {rs : Nat → Nat → Int64}
theorem c_X3_derived (hW : KF ad L) (h : MR hp th wi an li ki fi se tr cl si st nu wo fr) (hn : wi ≤ 9) (hM : MGs wi inp gt ki fi se tr) (hgd : ∀ i, i < wi → inp &&& 2 ^ i = 0 → gGood i (gt i)) (hcl : supp cl wi) (hc0 : cnt cl ≤ 40) (b : Bool) : KM l yX3_derived cX3_derived 3 (some .boolean) (rmK 4 0 0) D dA ad sa L [.ref 54, .int (bI b)] hp
    (fun r hp' => (∃ si2 st2 nu2 wo2 fr2, MR hp' th wi an li ki fi se tr cl si2 st2 nu2 wo2 fr2 ∧ (b = false → si2 = si ∧ st2 = st ∧ nu2 = nu) ∧ (((∀ j, j ≤ ngN inp wi → cnt (rwsK inp wi gt cl j) ≤ 40) ∧ r = some (.int (nI 1)) ∧ (b = true → ∀ j, j ≤ ngN inp wi → LN wi si2 st2 nu2 j (rwsK inp wi gt cl j))) ∨ ((∃ j, 0 < j ∧ j ≤ ngN inp wi ∧ 40 < cnt (rwsK inp wi gt cl j)) ∧ r = some (.int (nI 0))))) ∧ FM hp hp') := by
  refine KM.of rfl ok_X3_derived (len_of rfl) hW.1.1 hW.1.2 ?_
  intro p e s m args below meth c A hC hN
  have h0 := hW.2 54 (by decide)
  have h109 := hW.2 63 (by decide)
  have h110 := hW.2 64 (by decide)
  have hp2 := p2_lt hn
  have hng := ngN_le inp wi
  have hsup := fun k (hk : k ≤ ngN inp wi) => rws_supp (inp := inp) (n := wi) (gt := gt) (cl := cl) hgd hcl hk
  refine g_run hC 2 rfl ?_
  refine g_ind (σ := Nat × (Nat → KE) × (Nat → Int64) × (Nat → Int64)) (fun x => 2 ^ wi - x.1) (fun x => x.1 ≤ 2 ^ wi ∧ MR x.2.1 th wi an li ki fi se tr cl si st nu x.2.2.1 x.2.2.2 ∧ FM hp x.2.1 ∧ ∀ j, j < x.1 → x.2.2.1 j = cl j ∧ x.2.2.2 j = vsN cl j (2 ^ wi)) (fun x => x.2.1) (fun x => [(0, .ref 54), (1, .int (bI b)), (2, .int (nI x.1))]) (0, hp, wo, fr) ⟨Nat.zero_le _, h, FM.rf, fun j hj => absurd hj (Nat.not_lt_zero j)⟩ rfl ⟨rfl, rfl, rfl, trivial⟩ ?_
  rintro ⟨q, hp1, wo1, fr1⟩ ⟨hq, m1, f1, hr⟩ ih
  dsimp only at hq m1 f1 hr ih ⊢
  refine g_run hC 3 rfl ?_
  refine g_get hC rfl F_X3_45 h0 m1.g100 rfl ?_
  refine g_run hC 1 rfl ?_
  refine g_top (nI (2 ^ wi)) (shl_1 wi (by omega)) ?_
  refine g_icge (tgt := 41) hC rfl (by decide) (fun h1 => ?_) (fun h1 => ?_)
  · have h3 := (nI_leI (a := 2 ^ wi) (b := q) (by omega) (by omega)).mp h1
    have h4 : q = 2 ^ wi := by omega
    subst h4
    refine g_run hC 2 rfl ?_
    refine g_ind (σ := Nat × (Nat → KE) × (Nat → Nat) × (Nat → Nat) × (Nat → Int64) × (Nat → Int64) × (Nat → Int64)) (fun x => ngN inp wi + 1 - x.1) (fun x => x.1 ≤ ngN inp wi + 1 ∧ MR x.2.1 th wi an li ki fi se tr cl x.2.2.1 x.2.2.2.1 x.2.2.2.2.1 x.2.2.2.2.2.1 x.2.2.2.2.2.2 ∧ FM hp x.2.1 ∧ (∀ j, j < 2 ^ wi → x.2.2.2.2.2.1 j = rwsK inp wi gt cl (x.1 - 1) j ∧ x.2.2.2.2.2.2 j = vsN (rwsK inp wi gt cl (x.1 - 1)) j (2 ^ wi)) ∧ (∀ j, j < x.1 → cnt (rwsK inp wi gt cl j) ≤ 40) ∧ (b = false → x.2.2.1 = si ∧ x.2.2.2.1 = st ∧ x.2.2.2.2.1 = nu) ∧ (b = true → ∀ j, j < x.1 → LN wi x.2.2.1 x.2.2.2.1 x.2.2.2.2.1 j (rwsK inp wi gt cl j))) (fun x => x.2.1) (fun x => [(0, .ref 54), (1, .int (bI b)), (2, .int (nI x.1))]) (0, hp1, si, st, nu, wo1, fr1) ⟨Nat.zero_le _, m1, f1, hr, fun j hj => absurd hj (Nat.not_lt_zero j), fun _ => ⟨rfl, rfl, rfl⟩, fun _ j hj => absurd hj (Nat.not_lt_zero j)⟩ rfl ⟨rfl, rfl, rfl, trivial⟩ ?_
    rintro ⟨k, hp2, si2, st2, nu2, wo2, fr2⟩ ⟨hk, m2, f2, hw2, hc2, hf2, ht2⟩ ih2
    dsimp only at hk m2 f2 hw2 hc2 hf2 ht2 ih2 ⊢
    refine g_run hC 2 rfl ?_
    refine g_callV hC hN [] (c_X3_gates hW m2 hn hM hgd) rfl M_X3_93 h0 m2.g100 rfl rfl (len_of rfl) (by decide) (by decide) ?_
    rintro r hp3 ⟨rfl, rfl⟩
    refine g_icgt (tgt := 86) hC rfl (by decide) (fun h5 => ?_) (fun h5 => ?_)
    · have h6 := (nI_ltI (a := ngN inp wi) (b := k) (by omega) (by omega)).mp h5
      refine g_run hC 1 rfl ?_
      exact g_zret hC (nar_b true) rfl rfl ⟨⟨_, _, _, _, _, m2, hf2, Or.inl ⟨fun j hj => hc2 j (by omega), rfl, fun hb j hj => ht2 hb j (by omega)⟩⟩, f2⟩ (Nat.le_refl _) (Nat.le_refl _)
    · have h6 : ¬ ngN inp wi < k := fun z => h5 ((nI_ltI (a := ngN inp wi) (b := k) (by omega) (by omega)).mpr z)
      have hsk := hsup k (by omega)
      refine g_cutA (ι := (Nat → KE) × (Nat → Int64) × (Nat → Int64)) (fun x => MR x.1 th wi an li ki fi se tr cl si2 st2 nu2 x.2.1 x.2.2 ∧ FM hp x.1 ∧ (∀ j, j < 2 ^ wi → x.2.1 j = rwsK inp wi gt cl k j ∧ x.2.2 j = vsN (rwsK inp wi gt cl k) j (2 ^ wi)) ∧ cnt (rwsK inp wi gt cl k) ≤ 40) (fun x => x.1) 71 (fun _ => [(0, .ref 54), (1, .int (bI b)), (2, .int (nI k))]) (fun _ => []) ?_ (fun t71 => ?_)
      · rintro ⟨hp4, wo4, fr4⟩ ⟨m4, f4, hw4, hc4⟩
        dsimp only at m4 f4 hw4 ⊢
        have hck : ∀ j, j < k + 1 → cnt (rwsK inp wi gt cl j) ≤ 40 := fun j hj => by
          by_cases ej : j = k
          · rw [ej]; exact hc4
          · exact hc2 j (by omega)
        refine g_run hC 1 rfl ?_
        cases b with
        | false =>
          refine g_ifeq (tgt := 80) hC rfl (by decide) (fun _ => ?_) (fun h7 => absurd rfl h7)
          refine g_run hC 2 rfl ?_
          exact g_lvs (ih2 (k + 1, hp4, si2, st2, nu2, wo4, fr4) ⟨by dsimp only; omega, m4, f4, hw4, hck, hf2, fun z => by cases z⟩ (by dsimp only; omega)) ⟨rfl, rfl, sI (nI_s k), trivial⟩
        | true =>
          have e4 : cntN wo4 (2 ^ wi) = cnt (rwsK inp wi gt cl k) := (cntN_congr (fun j hj => (hw4 j hj).1)).trans (supp_cnt hn hsk).symm
          refine g_ifeq (tgt := 80) hC rfl (by decide) (fun h7 => absurd h7 (by decide)) (fun _ => ?_)
          refine g_run hC 2 rfl ?_
          refine g_callV hC hN [.int (nI k)] (c_X3_keep hW m4 hn k (by omega) (by omega) (fun i hi => cntN_mono (by omega))) rfl M_X3_102 h0 m4.g100 rfl rfl (len_of rfl) (by decide) (by decide) ?_
          rintro r hp5 ⟨rfl, m5, f5⟩
          refine g_run hC 2 rfl ?_
          refine g_lvs (ih2 (k + 1, hp5, va_up si2 k (cntN wo4 (2 ^ wi)), stK st2 wo4 (40 * k) (2 ^ wi), nuK nu2 wo4 (40 * k) (2 ^ wi), wo4, fr4) ⟨by dsimp only; omega, m5, f4.tr f5, hw4, hck, fun z => (by cases z), fun _ j hj => ?_⟩ (by dsimp only; omega)) ⟨rfl, rfl, sI (nI_s k), trivial⟩
          dsimp only at hj ⊢
          by_cases ej : j = k
          · rw [ej]
            exact LN_keep hn hsk (fun s hs => (hw4 s hs).1) hc4
          · exact (OL_keep (si := si2) (st := st2) (nu := nu2) (k := k) (by omega)).ln ej (ht2 rfl j (by omega))
      · refine g_run hC 1 rfl ?_
        refine g_ifle (tgt := 71) hC rfl (by decide) (fun h7 => ?_) (fun h7 => ?_)
        · have hk0 : k = 0 := Nat.le_zero.mp ((nI_leI (a := k) (b := 0) (by omega) (by decide)).mp h7)
          subst hk0
          exact g_lvs (t71 (_, wo2, fr2) ⟨m2, f2, hw2, hc0⟩) ⟨rfl, rfl, rfl, trivial⟩
        · have hk0 : 0 < k := by
            rcases Nat.eq_zero_or_pos k with z | z
            · exact absurd (by rw [z]; decide) h7
            · exact z
          obtain ⟨v, v1, v2, v3⟩ := gw_ok (inp := inp) (w := wi) (k := k) hk0 (by omega)
          have hrk : rwsK inp wi gt cl k = elimC (rwsK inp wi gt cl (k - 1)) (2 ^ v) (gt v).2.2.2.2.1 (gt v).2.2.2.2.2 := by
            obtain ⟨k1, rfl⟩ : ∃ k1, k = k1 + 1 := ⟨k - 1, by omega⟩
            simp only [rwsK]
            rw [v3, Nat.add_sub_cancel, Nat.add_sub_cancel]
          refine g_run hC 3 rfl ?_
          refine g_callV hC hN [.int (nI k)] (c_X3_gateWire hW m2 hn hM hgd k hk0 (by omega)) rfl M_X3_96 h0 m2.g100 rfl rfl (len_of rfl) (by decide) (by decide) ?_
          rintro r hp4 ⟨rfl, rfl⟩
          rw [v3]
          refine g_callV hC hN [.int (nI (v + 1))] (c_X3_eliminated hW m2 hn v v1 ((hM v v1).1 v2) (hgd v v1 v2)) rfl M_X3_99 h0 m2.g100 rfl rfl (len_of rfl) (by decide) (by decide) ?_
          rintro r hp5 ⟨wo5, fr5, e1, ⟨w1, e2, e3⟩, rfl, m5, f5⟩
          have hfr : ∀ x, x < 2 ^ wi → fr2 (red (gt v) v x) = vsN (rwsK inp wi gt cl k) x (2 ^ wi) := fun x hx => by
            rw [(hw2 _ (red_lt (t := gt v) hn v1 hx)).2, hrk, elim_vs hn v1 (hgd v v1 v2) hx]
          have hwo : ∀ x, x < 2 ^ wi → wo5 x = rwsK inp wi gt cl k x := fun x hx => by
            rw [e3]
            exact mob_inv (fun y hy => by rw [e2 y hy, hfr y hy]) hx
          have e4 : cntN wo5 (2 ^ wi) = cnt (rwsK inp wi gt cl k) := (cntN_congr hwo).trans (supp_cnt hn hsk).symm
          have hcl512 := cnt_le (rwsK inp wi gt cl k)
          rw [e4]
          refine g_run hC 1 rfl ?_
          refine g_icle (tgt := 71) hC rfl (by decide) (fun h8 => ?_) (fun h8 => ?_)
          · have h9 := (nI_leI (a := cnt (rwsK inp wi gt cl k)) (b := 40) (by omega) (by decide)).mp h8
            exact g_lvs (t71 (hp5, wo5, fr5) ⟨m5, f2.tr f5, fun j hj => ⟨hwo j hj, (e1 j hj).trans (hfr j hj)⟩, h9⟩) ⟨rfl, rfl, rfl, trivial⟩
          · have h9 : ¬ cnt (rwsK inp wi gt cl k) ≤ 40 := fun z => h8 ((nI_leI (a := cnt (rwsK inp wi gt cl k)) (b := 40) (by omega) (by decide)).mpr z)
            refine g_run hC 1 rfl ?_
            exact g_zret hC (nar_b false) rfl rfl ⟨⟨_, _, _, _, _, m5, hf2, Or.inr ⟨⟨k, hk0, by omega, by omega⟩, rfl⟩⟩, f2.tr f5⟩ (Nat.le_refl _) (Nat.le_refl _)
  · have h3 : q < 2 ^ wi := by
      have : ¬ 2 ^ wi ≤ q := fun z => h1 ((nI_leI (a := 2 ^ wi) (b := q) (by omega) (by omega)).mpr z)
      omega
    refine g_run hC 1 rfl ?_
    refine g_get hC rfl F_X3_38 h0 m1.g100 rfl ?_
    refine g_run hC 3 rfl ?_
    refine g_callV hC hN [.int (nI q)] (c_X3_claimed hW m1 hn q (by omega)) rfl M_X3_76 h0 m1.g100 rfl rfl (len_of rfl) (by decide) (by decide) ?_
    rintro r hp2 ⟨rfl, rfl⟩
    refine g_lst hC q rfl h110 m1.g110 rfl (by omega) (by decide) ?_
    have m2 := m1.s_fr (x9 := va_up fr1 q (vsN cl q (2 ^ wi)))
    refine g_run hC 1 rfl ?_
    refine g_get hC rfl F_X3_35 h0 m2.g100 rfl ?_
    refine g_run hC 2 rfl ?_
    refine g_get hC rfl F_X3_22 h0 m2.g100 rfl ?_
    refine g_run hC 1 rfl ?_
    refine g_lld hC q rfl (hW.2 59 (by decide)) m2.g105 rfl (by omega) (by decide) ?_
    refine g_lst hC q rfl h109 m2.g109 rfl (by omega) (by decide) ?_
    have m3 := m2.s_wo (x9 := va_up wo1 q (cl q))
    refine g_run hC 2 rfl ?_
    refine g_lvs (ih (q + 1, _, va_up wo1 q (cl q), va_up fr1 q (vsN cl q (2 ^ wi))) ⟨by dsimp only; omega, m3, f1.tr ((FM.up (by decide) (by decide)).tr (FM.up (by decide) (by decide))), fun j hj => ?_⟩ (by dsimp only; omega)) ⟨rfl, rfl, sI (nI_s q), trivial⟩
    dsimp only at hj ⊢
    by_cases ej : j = q
    · rw [ej, va_up_self, va_up_self]
      exact ⟨rfl, rfl⟩
    · rw [va_up_ne _ _ ej, va_up_ne _ _ ej]
      exact hr j (by omega)
theorem c_X3_prove (hW : KF ad L) (h : MR hp th wi an li ki fi se tr cl si st nu wo fr) (hn : wi ≤ 9) (hM : MGs wi inp gt ki fi se tr) (hgd : ∀ i, i < wi → inp &&& 2 ^ i = 0 → gGood i (gt i)) (hcl : supp cl wi) (hc0 : cnt cl ≤ 40) : KM l yX3_prove cX3_prove 3 (some .int) (rmK 5 0 0) D dA ad sa L [.ref 54] hp
    (fun r hp' => (∃ t li2 si2 st2 nu2 wo2 fr2, MR hp' t wi an li2 ki fi se tr cl si2 st2 nu2 wo2 fr2 ∧ ((t = 0 ∧ li2 = ngN inp wi + 1 ∧ (∀ j, j ≤ ngN inp wi → cnt (rwsK inp wi gt cl j) ≤ 40) ∧ r = some (.int (nI (cnt (rwsK inp wi gt cl (ngN inp wi))))) ∧ (∀ j, j ≤ ngN inp wi → LN wi si2 st2 nu2 j (rwsK inp wi gt cl j))) ∨ (t = 1 ∧ li2 = li ∧ si2 = si ∧ st2 = st ∧ nu2 = nu ∧ (∃ j, 0 < j ∧ j ≤ ngN inp wi ∧ 40 < cnt (rwsK inp wi gt cl j)) ∧ ∃ v, r = some (.int v)))) ∧ FM hp hp') := by
  refine KM.of rfl ok_X3_prove (len_of rfl) hW.1.1 hW.1.2 ?_
  intro p e s m args below meth c A hC hN
  have h0 := hW.2 54 (by decide)
  have hng := ngN_le inp wi
  refine g_run hC 3 rfl ?_
  refine g_callV hC hN [.int (bI false)] (c_X3_derived hW h hn hM hgd hcl hc0 false) rfl M_X3_106 h0 h.g100 rfl rfl (len_of rfl) (by decide) (by decide) ?_
  rintro r hp1 ⟨⟨si1, st1, nu1, wo1, fr1, m1, hu, hr⟩, f1⟩
  obtain ⟨rfl, rfl, rfl⟩ := hu rfl
  rcases hr with ⟨hall, rfl, -⟩ | ⟨hbad, rfl⟩
  · refine g_ifeq (tgt := 13) hC rfl (by decide) (fun h1 => absurd h1 (by decide)) (fun _ => ?_)
    refine g_run hC 2 rfl ?_
    refine g_putI hC rfl F_X3_41 h0 m1.g100 (len_of rfl) rfl rfl ?_
    have m2 := m1.obj (th2 := 0) (wi2 := wi) (an2 := an) (li2 := li)
    refine g_run hC 1 rfl ?_
    refine g_get hC rfl F_X3_41 h0 m2.g100 rfl ?_
    refine g_ifgt (tgt := 32) hC rfl (by decide) (fun h1 => absurd h1 (by decide)) (fun _ => ?_)
    refine g_run hC 2 rfl ?_
    refine g_callV hC hN [.int (bI true)] (c_X3_derived hW m2 hn hM hgd hcl hc0 true) rfl M_X3_106 h0 m2.g100 rfl rfl (len_of rfl) (by decide) (by decide) ?_
    rintro r hp3 ⟨⟨si3, st3, nu3, wo3, fr3, m3, -, hr3⟩, f3⟩
    rcases hr3 with ⟨-, rfl, hLN⟩ | ⟨⟨j, j1, j2, j3⟩, -⟩
    · refine g_ifne (tgt := 34) hC rfl (by decide) (fun _ => ?_) (fun h1 => absurd h1 (by decide))
      refine g_run hC 2 rfl ?_
      refine g_callV hC hN [] (c_X3_gates hW m3 hn hM hgd) rfl M_X3_93 h0 m3.g100 rfl rfl (len_of rfl) (by decide) (by decide) ?_
      rintro r hp4 ⟨rfl, rfl⟩
      refine g_run hC 2 rfl ?_
      refine g_top (nI (ngN inp wi + 1)) (nI_s _) ?_
      refine g_putI hC rfl F_X3_52 h0 m3.g100 (len_of rfl) rfl rfl ?_
      have m4 := m3.obj (th2 := 0) (wi2 := wi) (an2 := an) (li2 := ngN inp wi + 1)
      have hL := hLN rfl
      refine g_run hC 1 rfl ?_
      refine g_get hC rfl F_X3_26 h0 m4.g100 rfl ?_
      refine g_run hC 1 rfl ?_
      refine g_get hC rfl F_X3_52 h0 m4.g100 rfl ?_
      refine g_run hC 2 rfl ?_
      refine g_ild hC (ngN inp wi) rfl (hW.2 60 (by decide)) m4.g106 (pk_sub (a := ngN inp wi + 1) (b := 1) (by omega)) (by omega) (by decide) ?_
      refine g_iret hC rfl rfl ⟨⟨_, _, _, _, _, _, _, m4, Or.inl ⟨rfl, rfl, hall, ?_, hL⟩⟩, ((f1.tr (FM.up (by decide) (by decide))).tr f3).tr (FM.up (by decide) (by decide))⟩ (Nat.le_refl _) (Nat.le_refl _)
      rw [(hL _ (Nat.le_refl _)).2.1]
    · have := hall j j2
      omega
  · refine g_ifeq (tgt := 13) hC rfl (by decide) (fun _ => ?_) (fun h1 => absurd rfl h1)
    refine g_run hC 1 rfl ?_
    refine g_putI hC rfl F_X3_41 h0 m1.g100 (len_of rfl) rfl rfl ?_
    have m2 := m1.obj (th2 := 1) (wi2 := wi) (an2 := an) (li2 := li)
    refine g_run hC 1 rfl ?_
    refine g_get hC rfl F_X3_41 h0 m2.g100 rfl ?_
    refine g_ifgt (tgt := 32) hC rfl (by decide) (fun _ => ?_) (fun h1 => absurd (by decide) h1)
    refine g_run hC 1 rfl ?_
    exact g_iret hC rfl rfl ⟨⟨_, _, _, _, _, _, _, m2, Or.inr ⟨rfl, rfl, rfl, rfl, rfl, hbad, _, rfl⟩⟩, f1.tr (FM.up (by decide) (by decide))⟩ (Nat.le_refl _) (Nat.le_refl _)
end
end
section
/-! 'throw new NoSuchElementException("text")': its constructor links its super by another index than the others -/
/-- the words of such a throw -/
def nxL (own : String) (ic : Nat) (X Y : String) (ix : Nat) (rx : ByteArray) (r : List String) : List Cond :=
  Bundle.passSAtoms X Y ix rx ++ Bundle.chainSAtoms Y r ++ Bundle.throwableSAtoms ++ Bundle.throwableAtoms ++
  [.methodLink own ic (Bundle.initS X), .instantiable X 6, .selects X Bundle.tFill0 Bundle.tFill0, .selects X Bundle.tFill Bundle.tFill,
   .lays X Bundle.tN "backtrace" "Ljava/lang/Object;", .lays Bundle.tN Bundle.tN "backtrace" "Ljava/lang/Object;", .fieldLink Bundle.tN 198 Bundle.tN "backtrace" "Ljava/lang/Object;",
   .lays X Bundle.tN "detailMessage" "Ljava/lang/String;", .lays X Bundle.tN "suppressedExceptions" Bundle.listD, .lays X Bundle.tN "stackTrace" Bundle.steD, .lays X Bundle.tN "cause" "Ljava/lang/Throwable;",
   .isRef (.static Bundle.tN "SUPPRESSED_SENTINEL" Bundle.listD), .isRef (.static Bundle.tN "UNASSIGNED_STACK" Bundle.steD)]
theorem nx_chain {args : Array Value} {s : State} {pl : Platform} (hpl : pl.magicAccessors = ({} : Platform).magicAccessors) {top : MethodId} (htop : s.methodNamed? (Bundle.initS Bundle.tN) = some top)
    {X Y : String} {ix : Nat} {rx : ByteArray} {r : List String} (x0 : decode rx 0 = .ok (.aload_n 0, 1)) (x1 : decode rx 1 = .ok (.aload_n 1, 1)) (x2 : decode rx 2 = .ok (.invokespecial ix, 3)) (x5 : decode rx 5 = .ok (.return_, 1))
    (hX : Bundle.fit X = true) (hY : Bundle.fit Y = true) (hr : ∀ n ∈ r, Bundle.fit n = true) (h1 : ∀ c ∈ Bundle.passSAtoms X Y ix rx, c.before args s = true) (h2 : ∀ c ∈ Bundle.chainSAtoms Y r, c.before args s = true) :
    ∃ (P1 : PassC) (Ps : List PassC), Ps.length = r.length + 1 ∧ P1.LinksS pl s ∧ (∀ P, P ∈ Ps → P.LinksS pl s) ∧ s.methodNamed? (Bundle.initS X) = some P1.m ∧
        P1.sup = firstOf top (Ps.map (·.toPassT)) ∧ PassesOn top (Ps.map (·.toPassT)) := by
  obtain ⟨P, L, hm, hs⟩ := PassC.ofS_atoms (args := args) (s := s) hpl (X := X) (Y := Y) (Bundle.fit_spec hX).1 (Bundle.fit_spec hY).2 x0 x1 x2 x5 h1
  obtain ⟨P2, Ps, hlen, L2, hL, hm2, hsup, hpass⟩ := Bundle.chainS (args := args) hpl htop r Y hY hr h2
  refine ⟨P, P2 :: Ps, by rw [List.length_cons, hlen], L, fun Q hQ => ?_, hm, Option.some.inj (hs.symm.trans hm2), hsup, hpass⟩
  rcases List.mem_cons.mp hQ with e | e
  · rw [e]; exact L2
  · exact hL Q e
section
variable {p : Program} {l : Launch} {e : Env} {R : Room} {s : State} {m₀ : MethodId} {args : Array Value} {below : List Frame} {meth : Method} {c : Code} {W9 : State} {locs : List Loc} {cells slots : Nat}
set_option maxHeartbeats 1000000 in
theorem nx_ctor (X : Stand p l e R s m₀ args below meth c W9 locs cells slots) (hexec : p.tables.exec = Jvm.exec) (htr : e.platform.stackTraces = false) {own cls Y9 : String} {r9 : List String} {ic : Nat}
    {ix : Nat} {rx : ByteArray} (x0 : decode rx 0 = .ok (.aload_n 0, 1)) (x1 : decode rx 1 = .ok (.aload_n 1, 1)) (x2 : decode rx 2 = .ok (.invokespecial ix, 3)) (x5 : decode rx 5 = .ok (.return_, 1))
    (hown : s.vm.findClass own = some m₀.cls) (hcls : Bundle.fit cls = true) (hY9 : Bundle.fit Y9 = true) (hnames : ∀ n ∈ r9, Bundle.fit n = true)
    (h : ∀ a ∈ nxL own ic cls Y9 ix rx r9, a.before args s = true)
    (hlocs : ∀ x ∈ locs, ∀ cell, s.heap[x.base]? = some cell → cell.vm.isStatics = false)
    {a : Addr} {cX : ClassId} {kX : Class} (hfoundX : s.vm.findClass cls = some cX) (hkX : s.vm.classes[cX]? = some kX) (hcell : W9.heap[a]? = some (freshCell cX kX)) (hnew : s.heap.size ≤ a)
    {msg : Value} (hmsg : msg.isRef = true)
    {g : JFrame} (hg : g.method = m₀) (hsize : g.locals.size = c.maxLocals) (hlocked : g.locked = none) (hentered : g.entered = []) {rest : List Value} (hstack : g.stack = msg :: .ref a :: .ref a :: rest)
    (hd6 : decode c.code g.pc = .ok (.invokespecial ic, 3)) (hd9 : decode c.code (g.pc + 3) = .ok (.athrow, 1)) (hout : ∀ x ∈ c.exceptionTable.toList, covers x (g.pc + 3) = false)
    (hRframes : r9.length + 4 < R.frames) (hRlocals : 2 * g.monitorRoom + ((Value.ref a :: rest).map fun v => v.category).sum + (13 * (r9.length + 2) + 42) ≤ R.locals) (hlocks : meth.locks = false) :
    ∃ U : State, Steps p.tables e below (W9.setTop g) U ∧ U.status = .running ∧ Ended U below (.threw a) ∧ s.WarmedH U.vm ∧ s.sameButNew ({ U with vm := s.vm } : State) locs cells slots ∧
      ∃ ce, U.heap[a]? = some ce ∧ s.vm.findClass cls = some ce.cls ∧ ce.vm = .none := by
  have howns : e.platform.frameOwnsMonitors = true := by rw [X.admits.platform]
  have hfin : e.platform.finalization = false := by rw [X.admits.platform]
  have hpl : e.platform.magicAccessors = ({} : Platform).magicAccessors := by rw [X.admits.platform]
  have a' : ∀ x, x ∈ nxL own ic cls Y9 ix rx r9 → x.holds args s none s [] = true := fun x hx => h x hx
  obtain ⟨T, Z0, L, -, Y⟩ := ThrowableC.of_atoms (args := args) howns hfin hpl (fun x hx => h x (by simp [nxL, hx]))
  obtain ⟨Z, M, LZ, LM, hnZ⟩ := Init0T.ofS_atoms (args := args) hpl L Y (fun x hx => h x (by simp [nxL, hx]))
  obtain ⟨P1, Ps, hlen, L1, hL, hP1m, hlink1, hlink⟩ := nx_chain (args := args) hpl hnZ x0 x1 x2 x5 hcls hY9 hnames (fun x hx => h x (by simp [nxL, hx])) (fun x hx => h x (by simp [nxL, hx]))
  have hfound : s.vm.findClass cls = some P1.m.cls := findClass_of_methodNamed hP1m
  cases Option.some.inj (hfoundX.symm.trans hfound)
  obtain ⟨c1, kX', hc1, hk, hord, -, -, -⟩ := Cond.instantiable_spec (a' (.instantiable cls 6) (by simp [nxL]))
  cases Option.some.inj (hc1.symm.trans hfound)
  cases Option.some.inj (hkX.symm.trans hk)
  have hsel0 : selectMethod e.platform s.vm P1.m.cls T.fill0 = .method T.fill0 := by
    obtain ⟨c2, r2, m2, q1, q2, q3, q4, -⟩ := Cond.selects_spec (a' (.selects cls Bundle.tFill0 Bundle.tFill0) (by simp [nxL]))
    cases Option.some.inj (q1.symm.trans hfound)
    cases Option.some.inj (q2.symm.trans (State.methodFound?_of_named Y.fill0 (by decide)))
    cases Option.some.inj (q3.symm.trans Y.fill0)
    rw [Launch.admits_selectMethod X.admits]; exact q4
  have hselF : selectMethod e.platform s.vm P1.m.cls T.fill = .method T.fill := by
    obtain ⟨c2, r2, m2, q1, q2, q3, q4, -⟩ := Cond.selects_spec (a' (.selects cls Bundle.tFill Bundle.tFill) (by simp [nxL]))
    cases Option.some.inj (q1.symm.trans hfound)
    cases Option.some.inj (q2.symm.trans (State.methodFound?_of_named Y.fill (by decide)))
    cases Option.some.inj (q3.symm.trans Y.fill)
    rw [Launch.admits_selectMethod X.admits]; exact q4
  obtain ⟨cellS0, hcS0, hiss⟩ := Y.statics
  obtain ⟨u0, hu0⟩ := Cond.staticRefV Y.unassigned L.unassignedStatic L.statics hcS0 hiss (a' (.isRef (.static Bundle.tN "UNASSIGNED_STACK" Bundle.steD)) (by simp [nxL]))
  obtain ⟨sen, hsen⟩ := Cond.staticRefV Y.sentinel L.sentinelStatic L.statics hcS0 hiss (a' (.isRef (.static Bundle.tN "SUPPRESSED_SENTINEL" Bundle.listD)) (by simp [nxL]))
  obtain ⟨ci198, i198, fB, hk198, hg198, ha198, hsB, -, hnB, htB, hffB⟩ := Cond.ownField (t := .object "java/lang/Object") Y.found L.cls (by decide +kernel) (a' (.fieldLink Bundle.tN 198 Bundle.tN "backtrace" "Ljava/lang/Object;") (by simp [nxL])) (a' (.lays Bundle.tN Bundle.tN "backtrace" "Ljava/lang/Object;") (by simp [nxL])) e.platform hpl
  obtain ⟨cellS, hcS', heS, -, hkeep⟩ := X.same.2.2.2.2.2 T.aS cellS0 hcS0
  have hcellS : W9.heap[T.aS]? = some cellS := hcS'
  have hout' : ∀ i, (⟨T.aS, i⟩ : Loc) ∉ locs := fun i hmem => by
    have := hlocs _ hmem cellS0 hcS0
    rw [hiss] at this; cases this
  have hknownS : cellS.vm ≠ .unknown := by
    rw [heS]; intro hu
    rw [show cellS0.vm = .unknown from hu] at hiss
    cases hiss
  have hneS : T.aS ≠ a := Nat.ne_of_lt (Nat.lt_of_lt_of_le (Array.getElem?_eq_some_iff.mp hcS0).1 hnew)
  obtain ⟨iM, hffM⟩ := Y.msg
  obtain ⟨tyC, dC, hdC, hdnC⟩ := Cond.laysAt hfound hk Y.cause (a' (.lays cls Bundle.tN "cause" "Ljava/lang/Throwable;") (by simp [nxL]))
  obtain ⟨tyS, dS, hdS, hdnS⟩ := Cond.laysAt hfound hk Y.stack (a' (.lays cls Bundle.tN "stackTrace" Bundle.steD) (by simp [nxL]))
  obtain ⟨tyP, dP, hdP, hdnP⟩ := Cond.laysAt hfound hk Y.supp (a' (.lays cls Bundle.tN "suppressedExceptions" Bundle.listD) (by simp [nxL]))
  obtain ⟨tyM, dM, hdM, hdnM⟩ := Cond.laysAt hfound hk hffM (a' (.lays cls Bundle.tN "detailMessage" "Ljava/lang/String;") (by simp [nxL]))
  obtain ⟨tyB, dB, hdB, hdnB⟩ := Cond.laysAt hfound hk hffB (a' (.lays cls Bundle.tN "backtrace" "Ljava/lang/Object;") (by simp [nxL]))
  have bC := Cond.laysApart hdB hdC hdnB hdnC (by rw [hnB, Y.causeName]; decide)
  have bS := Cond.laysApart hdB hdS hdnB hdnS (by rw [hnB, Y.stackName]; decide)
  have bP := Cond.laysApart hdB hdP hdnB hdnP (by rw [hnB, Y.suppName]; decide)
  have hskip : SkipFacts T e.platform s (fun u => u) u0 ((preparedCellV T.toThrowableT (freshCell P1.m.cls kX) a u0 sen).withEntry W9.cur) :=
    ⟨{ ci198 := ci198, i198 := i198, fBack := fB }, ⟨hk198, hg198, ha198, hsB⟩, by
      have := fresh_default (c := P1.m.cls) tyB
      rw [htB] at this
      simpa [preparedCellV, Cell.setSlot, Cell.withEntry, Array.getElem?_setIfInBounds, bC, bS, bP, bC.symm, bS.symm, bP.symm, defaultValue] using this, fun _ _ => rfl⟩
  obtain ⟨tm, methC, cdC, kC, vm₁, hnC, -, -, -, -, -, -, -, hW₁, st1⟩ := Steps.initColdS (tb := p.tables) (e := e) (below := below) (s := s) (U := W9) X.here hexec X.warmed hpl hown (t := Bundle.initS cls) rfl rfl (Bundle.fit_spec hcls).2
    (a' (.methodLink own ic (Bundle.initS cls)) (by simp [nxL])) (h (.instanceMethod (Bundle.initS cls)) (by simp [nxL, Bundle.passSAtoms])) (bytes := rx) (maxL := 2) (h (.code (Bundle.initS cls) rx 2 none) (by simp [nxL, Bundle.passSAtoms]))
    (f := g) hg (a := a) (msg := msg) (rest := .ref a :: rest) hstack hd6
  cases Option.some.inj (hnC.symm.trans hP1m)
  have X₁ := X.noted hW₁
  obtain ⟨vm₂, X₂, st2⟩ := X₁.ctorMessageOffV hexec (g := { g with stack := .ref a :: rest }) hg hsize T L Z LZ M LM (P1 :: Ps)
    (fun P hP => by rcases List.mem_cons.mp hP with rfl | hP; exact L1; exact hL P hP) ⟨hlink1, hlink⟩ (u0 := u0) (sen := sen) (self := a) hmsg (cell := freshCell P1.m.cls kX) (cellS := cellS)
    hcell (fun _ => by simp) (by simp) rfl rfl hsel0 hselF hcellS hneS hknownS (by rw [hkeep _ (hout' _)]; exact hu0) (by rw [hkeep _ (hout' _)]; exact hsen)
    (Takes.of_laid hk hord tyC (by rw [Y.causeType]; rfl)) (Takes.of_laid hk hord tyS (by rw [Y.stackType]; exact fits_refV_array _ u0)) (Takes.of_laid hk hord tyP (by rw [Y.suppType]; exact fits_refV_object _ sen))
    (Takes.of_laid hk hord tyM (by rw [Y.msgType]; exact fits_refV_object _ ⟨msg, hmsg⟩)) Y.objLocals hskip htr [] hd6
    (by simp only [List.length_cons, hlen]; omega) (by simp only [List.length_cons, hlen]; exact hRlocals)
  obtain ⟨hwalk, hrun, hended, hWU, hsame⟩ := X₂.athrowLeaves hexec (g := { g with stack := .ref a :: rest, pc := g.pc + 3 }) hg hlocked hentered hout (a := a) (rest := rest) rfl hd9
  have hlt : a < ((W9.setVm vm₁).setVm vm₂).heap.size := (Array.getElem?_eq_some_iff.mp hcell).1
  have hU := heapAt_setCell_self (s := (W9.setVm vm₁).setVm vm₂) (plainBareV T.toThrowableT (freshCell P1.m.cls kX) a u0 sen msg) hlt
  refine ⟨_, st1 _ (fun acts => ?_), hrun, hended, hWU, hsame.weaken (fun y hy hlt' => ?_) (Nat.le_refl _) (Nat.le_refl _), _, hU, hfound, rfl⟩
  · rw [doInvoke_state]
    exact st2 _ hwalk
  · rcases List.mem_append.mp hy with h1 | h1
    · exact h1
    · exfalso
      have hb : y.base = a := by
        simp only [List.mem_cons, List.not_mem_nil, or_false] at h1
        rcases h1 with rfl | rfl | rfl | rfl | rfl <;> rfl
      rw [hb] at hlt'
      exact Nat.not_lt.mpr hnew hlt'
end
section
variable {p : Program} {l : Launch} {e : Env} {R : Room} {s : State} {m : MethodId} {args : Array Value} {below : List Frame} {meth : Method} {c : Code} {H : Heap} {locs : List Loc} {cells slots : Nat} {Qc : Array Value → State → Outcome → State → Prop} {XC : String → State → State → Prop} {free : Addr → Prop} {ls : Array Slot} {rest : List Value}
theorem nx_throw {cc : ByteArray} {pc : Nat} (hexec : p.tables.exec = Jvm.exec) (hb : c.code = cc) (hl : l.stackTraces = false) {own cls text Y9 : String} {r9 : List String} {ik is ic ix mc ms sa : Nat} {rx : ByteArray} {A : Nat → Prop}
    (x0 : decode rx 0 = .ok (.aload_n 0, 1)) (x1 : decode rx 1 = .ok (.aload_n 1, 1)) (x2 : decode rx 2 = .ok (.invokespecial ix, 3)) (x5 : decode rx 5 = .ok (.return_, 1))
    (hown : s.vm.findClass own = some m.cls) (hcls : Bundle.fit cls = true) (hY9 : Bundle.fit Y9 = true) (hnames : ∀ n ∈ r9, Bundle.fit n = true)
    (hk : (Cond.classLink own ik cls).before args s = true) (hini : (Cond.initialized cls).before args s = true) (hstr : vk_R own is text sa s) (hat : ∀ w ∈ (nxL own ic cls Y9 ix rx r9).filter vx_no, w.before args s = true)
    (hgood : ∀ w ∈ Cond.classLink own ik cls :: Cond.initialized cls :: (nxL own ic cls Y9 ix rx r9).filter vx_no, vx_ot w = true)
    (hU : vx_Zq Bundle.tN "UNASSIGNED_STACK" Bundle.steD A s s.heap) (hN : vx_Zq Bundle.tN "SUPPRESSED_SENTINEL" Bundle.listD A s s.heap) (hS : va_S A s.heap H locs) (hsize : ls.size = c.maxLocals)
    (d0 : decode cc pc = .ok (.new ik, 3)) (d3 : decode cc (pc + 3) = .ok (.dup, 1)) (d4 : decode cc (pc + 4) = .ok (.ldc is, 2)) (d6 : decode cc (pc + 6) = .ok (.invokespecial ic, 3)) (d9 : decode cc (pc + 9) = .ok (.athrow, 1))
    (hout : ∀ x ∈ c.exceptionTable.toList, covers x (pc + 9) = false)
    (hRframes : r9.length + 4 < R.frames) (hRlocals : (rest.map fun v => v.category).sum + (13 * (r9.length + 2) + 43) ≤ R.locals) (hRcells : cells + 1 ≤ R.cells) (hRslots : slots + 6 ≤ R.slots) (hlocks : meth.locks = false)
    (hx : ∀ t : State, s.vm.Alike t.vm → H.size ≤ t.heap.size → (∀ q : Nat, q < H.size → t.heap[q]? = H[q]?) → XC cls s t)
    (hf : ∀ z ∈ locs, free z.base) (hc : cells + 1 ≤ mc) (hs : slots + 6 ≤ ms) :
    W p l e R s m args below meth c H locs cells slots (vx_MQ below Qc XC args s mc ms free) (F0 m pc ls rest) := by
  intro T hT X
  have htr : e.platform.stackTraces = false := (show e.platform.stackTraces = l.stackTraces by rw [X.admits.platform]).trans hl
  have Y := vx_rebase X (R' := { frames := R.frames, locals := R.locals, cells := 1, slots := 6 }) (Nat.le_refl _) (Nat.le_refl _) hRcells hRslots
  obtain ⟨s1, hA⟩ : ∃ z, z = (T.setVm s.vm).setFrames (.invoking m args :: below) := ⟨_, rfl⟩
  rw [← hA] at Y
  have hvm : s1.vm = s.vm := by rw [hA]; rfl
  have hhp : s1.heap = H := by rw [hA]; exact hT
  have hW0 : s.WarmedH s1.vm := by rw [hvm]; exact State.WarmedH.refl s
  have hat1 : ∀ w ∈ (nxL own ic cls Y9 ix rx r9).filter vx_no, w.before args s1 = true := fun w hw => vx_ot_at hW0 hvm.symm (hgood w (List.mem_cons_of_mem _ (List.mem_cons_of_mem _ hw))) (hat w hw)
  have hk1 : (Cond.classLink own ik cls).before args s1 = true := vx_ot_at hW0 hvm.symm (hgood _ List.mem_cons_self) hk
  have hini1 : (Cond.initialized cls).before args s1 = true := vx_ot_at hW0 hvm.symm (hgood _ (List.mem_cons_of_mem _ List.mem_cons_self)) hini
  have hU1 : vx_Zq Bundle.tN "UNASSIGNED_STACK" Bundle.steD A s1 s1.heap := by rw [hhp]; exact vx_Zq.moved hW0.alike (hU.kept hS.2.1)
  have hN1 : vx_Zq Bundle.tN "SUPPRESSED_SENTINEL" Bundle.listD A s1 s1.heap := by rw [hhp]; exact vx_Zq.moved hW0.alike (hN.kept hS.2.1)
  have h : ∀ w ∈ nxL own ic cls Y9 ix rx r9, w.before args s1 = true := vx_own hat1 (vx_isRefq hU1.1) (vx_isRefq hN1.1) hU1.2.word hN1.2.word
  have hown1 : s1.vm.findClass own = some m.cls := by rw [hvm]; exact hown
  have hins : (Cond.instantiable cls 6).before args s1 = true := h _ (by simp [nxL])
  obtain ⟨vm₁, cX, kX, hfX, hkX, -, -, X₁, st1⟩ := Y.newCold hexec (own := own) (C := cls) (index := ik) (n := 6) hown1 hk1 hins hini1
    (g := F0 m pc ls rest) rfl (by rw [hb]; exact d0) (Nat.le_refl _) (Nat.le_refl _)
  generalize hT1 : (T.setVm vm₁).pushCell { cls := cX, slots := kX.instanceTypes.map defaultValue, vm := .none } = T1 at X₁ st1
  have hcat : (Value.ref T.heap.size).category = 1 := rfl
  have hcellA : T1.heap[T.heap.size]? = some (freshCell cX kX) := by rw [← hT1]; exact State.heap_pushCell_size _ _
  have d31 : decode c.code (pc + 3) = .ok (.dup, 1) := by rw [hb]; exact d3
  have d41 : decode c.code (pc + 4) = .ok (.ldc is, 2) := by rw [hb]; exact d4
  have hstr1 : vk_R own is text sa s1 := vk_R.warm hW0 hstr
  obtain ⟨U, hsteps, hrun, hend, hW, hsame, ce, hce, hO1, hO2⟩ := nx_ctor X₁ hexec htr (own := own) (cls := cls) (ic := ic) x0 x1 x2 x5 hown1 hcls hY9 hnames h (fun x hx => nomatch hx) hfX hkX hcellA (by rw [hhp, hT]; exact Nat.le_refl _) (msg := .ref sa) rfl
    (g := { method := m, pc := pc + 6, locals := ls, stack := .ref sa :: .ref T.heap.size :: .ref T.heap.size :: rest, locked := none }) rfl hsize rfl rfl (rest := rest) rfl
    (by rw [hb]; exact d6) (by rw [hb]; exact d9) hout hRframes (by simp only [List.map_cons, List.sum_cons, hcat]; omega) hlocks
  obtain ⟨f1, f2⟩ := vx_frame hsame
  rw [hhp] at f1 f2
  have hWs : s.WarmedH U.vm := State.WarmedH.trans hW0 hW
  have hcl : s.vm.findClass cls = some ce.cls := by rw [← hvm]; exact hO1
  have hall : s.sameButNew ({ U with vm := s.vm } : State) locs mc ms := by
    subst hA
    obtain ⟨e1, e2⟩ := hsame
    rw [State.setFrames_setFrames] at e1
    have h2 : (T.setVm s.vm).sameButNew ({ U with vm := s.vm } : State) [] (0 + 1) (0 + 6) := ⟨e1, e2⟩
    have h3 := X.same.trans h2
    rw [List.append_nil] at h3
    exact h3.mono hc hs
  refine ⟨U, ?_, .threw T.heap.size, hrun, hend, Or.inr ⟨T.heap.size, rfl, cls, ce, locs, hx U hWs.alike f1 (fun q hq => f2 q hq (fun z hz => nomatch hz)), hce, hO2, hcl, hWs, hall, hf⟩⟩
  refine st1 _ ?_
  show Steps p.tables e below (T1.setTop { method := m, pc := pc + 3, locals := ls, stack := .ref T.heap.size :: rest, locked := none }) _
  jvm_step X₁.here [X₁.here.top, hexec, d31, Value.category]
  exact X₁.ldcString hexec (own := own) (text := text) (index := is) (a := sa) hown1 hstr1.1 hstr1.2
    (g := { method := m, pc := pc + 4, locals := ls, stack := .ref T.heap.size :: .ref T.heap.size :: rest, locked := none }) rfl d41 _ hsteps
end
end
section
theorem nxb0 : decode prog_19_method_4_code 0 = .ok (.aload_n 0, 1) := by decide +kernel
theorem nxb1 : decode prog_19_method_4_code 1 = .ok (.aload_n 1, 1) := by decide +kernel
theorem nxb2 : decode prog_19_method_4_code 2 = .ok (.invokespecial 13, 3) := by decide +kernel
theorem nxb5 : decode prog_19_method_4_code 5 = .ok (.return_, 1) := by decide +kernel
def nxR : List String := ["java/lang/Exception"]
def nxW : List Cond := (nxL RX2 147 "java/util/NoSuchElementException" "java/lang/RuntimeException" 13 prog_19_method_4_code nxR).filter vx_no
set_option maxRecDepth 100000 in
theorem nxw : ∀ w ∈ nxW, w ∈ lw_tbl ∧ (goodWord w || faceW w) = true := by decide +kernel
set_option maxRecDepth 100000 in
theorem nxo : ∀ w ∈ Cond.classLink RX2 143 "java/util/NoSuchElementException" :: Cond.initialized "java/util/NoSuchElementException" :: nxW, vx_ot w = true := by decide +kernel
theorem nxf : Bundle.fit "java/util/NoSuchElementException" = true ∧ Bundle.fit "java/lang/RuntimeException" = true ∧ ∀ n ∈ nxR, Bundle.fit n = true := ⟨by decide +kernel, by decide +kernel, by decide +kernel⟩
section
variable {p : Program} {l : Launch} {e : Env} {R : Room} {s : State} {m : MethodId} {args : Array Value} {below : List Frame} {meth : Method} {c : Code} {D : va_G} {dA ad sa : Nat → Nat} {L : List Nat} {A : Nat → Prop} {nL cells slots : Nat} {hp : Nat → KE} {cc : ByteArray} {ret : Option FieldType}
theorem nx_hat (hts : ∀ w ∈ WW, w.before args s = true) (hN : NW A sa s s.heap) : ∀ w ∈ nxW, w.before args s = true := fun w hw => by
  obtain ⟨h1, h2⟩ := nxw w hw
  by_cases hg : goodWord w = true
  · exact hts w (WW_of h1 hg)
  · have hf : faceW w = true := by
      cases hq : goodWord w with
      | true => exact absurd hq hg
      | false => rw [hq] at h2; exact h2
    have h3 := hN.1 w (TW_of h1 hf)
    exact face_same rfl hf h3
theorem g_throwN {tb : List (Nat × Instr × Nat)} (hC : CX p s m args meth c RX2 cc nL ret tb D dA ad L A) (hN : NW A sa s s.heap) (hE : ∀ x ∈ c.exceptionTable.toList, False) (hfl : l.stackTraces = false) {pc mc ms n1 n2 n3 n4 n5 : Nat} {lv : List (Nat × Value)} {post : Option Value → (Nat → KE) → Prop} {px : String → (Nat → KE) → Prop} {rest : List Value}
    (d0 : fd tb pc = some (.new 143, n1)) (d3 : fd tb (pc + 3) = some (.dup, n2)) (d4 : fd tb (pc + 4) = some (.ldc 145, n3)) (d6 : fd tb (pc + 6) = some (.invokespecial 147, n4)) (d9 : fd tb (pc + 9) = some (.athrow, n5))
    (hR : 5 < R.frames ∧ (rest.map fun v => v.category).sum + 82 ≤ R.locals) (hfc : cells + 1 ≤ R.cells ∧ slots + 6 ≤ R.slots) (hmc : cells + 1 ≤ mc ∧ slots + 6 ≤ ms) (hpx : px "java/util/NoSuchElementException" hp) :
    G p l e R s m args below meth c D dA ad L A nL cells slots (vx_MQ below (kR D dA ad L A post) (kX D dA ad L A px) args s mc ms A) hp pc lv rest := by
  obtain ⟨⟨hx, hb, hml, ho, hts⟩, hr9, hlk, htb, hK, hj1, hnd, hA, hA2⟩ := hC
  obtain ⟨k0, e0, -, q0⟩ := fd_ok htb d0
  obtain rfl : k0 = 3 := q0.resolve_left (by simp [ilen])
  obtain ⟨k0, e3, -, q0⟩ := fd_ok htb d3
  obtain rfl : k0 = 1 := q0.resolve_left (by simp [ilen])
  obtain ⟨k0, e4, -, q0⟩ := fd_ok htb d4
  obtain rfl : k0 = 2 := q0.resolve_left (by simp [ilen])
  obtain ⟨k0, e6, -, q0⟩ := fd_ok htb d6
  obtain rfl : k0 = 3 := q0.resolve_left (by simp [ilen])
  obtain ⟨k0, e9, -, q0⟩ := fd_ok htb d9
  obtain rfl : k0 = 1 := q0.resolve_left (by simp [ilen])
  intro H locs ls hP hS hl
  exact nx_throw (r9 := nxR) hx hb hfl nxb0 nxb1 nxb2 nxb5 ho nxf.1 nxf.2.1 nxf.2.2 (hts _ kL_X2_143) (hts _ iN__java_util_NoSuchElementException) (hN.2.2.1 (145, "the rest has no monomials") (by simp [strs])) (nx_hat hts hN) nxo hN.2.2.2.1 hN.2.2.2.2 hS (hl.1.trans hml.symm) e0 e3 e4 e6 e9 (fun x hx9 => (hE x hx9).elim) hR.1 (by rw [em_cats]; exact hR.2) hfc.1 hfc.2 hlk (kx_keep hP hS hpx) hS.2.2 hmc.1 hmc.2
end
section
variable {l : Launch} {D : va_G} {dA ad sa : Nat → Nat} {L : List Nat} {hp : Nat → KE} {n inp an lc : Nat} {cl ex : Nat → Int64} {pr : Nat → Nat → Int64} {gt : Nat → GT}
theorem c_X2_witness (hW : KF ad L) (hfl : l.stackTraces = false) (h : XR hp n inp an lc cl ex pr gt) (hlc : lc ≤ 10) : KX l yX2_witness cX2_witness 2 (some .int) (rmK 7 2 12) D dA ad sa L [.ref 0] hp
    (fun r hp' => ¬ lc = 0 ∧ ¬ cnt (pr (lc - 1)) = 0 ∧ r = some (.int (nI (lmN (pr (lc - 1)) 512).1)) ∧ hp' = hp) (fun E hp' => ((lc = 0 ∧ E = ISE) ∨ (¬ lc = 0 ∧ cnt (pr (lc - 1)) = 0 ∧ E = NSE)) ∧ hp' = hp) := by
  refine KX.of rfl ok_X2_witness (len_of rfl) hW.1.1 hW.1.2 ?_
  intro p e s m args below meth c A hC hN hE
  have h0 := hW.2 0 (by decide)
  refine g_run hC 1 rfl ?_
  refine g_callVX hC hN hE (by decide) (fun E hp' q => ⟨Or.inl ⟨q.1, q.2.1⟩, q.2.2⟩) [] (c_X2_refuseWithout hW hfl h (by omega)) rfl M_X2_136 h0 h.1 rfl rfl (len_of rfl) (by decide) (by decide) ?_
  rintro r hp1 ⟨hl0, rfl, rfl⟩
  have hpk := h.2.2.2.2.2.1 (lc - 1) (by omega)
  have hcl := cnt_le (pr (lc - 1))
  refine g_run hC 1 rfl ?_
  refine g_get hC rfl F_X2_22 h0 h.1 rfl ?_
  refine g_run hC 1 rfl ?_
  refine g_get hC rfl F_X2_113 h0 h.1 rfl ?_
  refine g_run hC 2 rfl ?_
  refine g_ald (C := RX1) (t := 3) hC (lc - 1) rfl (hW.2 4 (by decide)) h.2.2.1 rfl (pk_sub (a := lc) (b := 1) (by omega)) (by omega) (by decide) rfl ?_
  refine g_run hC 2 rfl ?_
  refine g_callV hC hN [] (c_X1_monomialCount hW _ (34 + 2 * (lc - 1)) _ (by omega) hpk) rfl M_X2_105 (hW.2 _ (by omega)) hpk.1 rfl rfl (len_of rfl) (by decide) (by decide) ?_
  rintro r hp2 ⟨rfl, rfl⟩
  refine g_ifne (tgt := 33) hC rfl (by decide) (fun h1 => ?_) (fun h1 => ?_)
  · have hc0 : ¬ cnt (pr (lc - 1)) = 0 := fun z => h1 (by rw [z]; rfl)
    refine g_run hC 1 rfl ?_
    refine g_callV hC hN [] (c_X1_least hW _ (34 + 2 * (lc - 1)) _ (by omega) hpk) rfl M_X2_148 (hW.2 _ (by omega)) hpk.1 rfl rfl (len_of rfl) (by decide) (by decide) ?_
    rintro r hp3 ⟨rfl, rfl⟩
    exact gx_iret hC rfl rfl ⟨hl0, hc0, rfl, rfl⟩ (by decide) (by decide)
  · have hc0 : cnt (pr (lc - 1)) = 0 := (nI_z (by omega)).mp h1
    exact g_throwN hC hN hE hfl rfl rfl rfl rfl rfl (by decide) (by decide) (by decide) ⟨Or.inr ⟨hl0, hc0, rfl⟩, rfl⟩
end
end
section
/-! worlds that grow -/
def rfV (L : List Nat) (v : Value) : Prop := ∀ k, v = .ref k → k ∈ L
def rfE (L : List Nat) (x : KE) : Prop := match x with
  | .inl (_, _, .inr (.inr (.inr (.inr f)))) => ∀ j k, f j = some k → k ∈ L
  | .inl _ => True
  | .inr (_, fs) => ∀ v ∈ fs, rfV L v
def CLO (L : List Nat) (hp : Nat → KE) : Prop := ∀ j ∈ L, rfE L (hp j)
theorem rfV.mono {L L2 : List Nat} (h : ∀ k ∈ L, k ∈ L2) {v : Value} (hv : rfV L v) : rfV L2 v := fun k e => h k (hv k e)
theorem rfE.mono {L L2 : List Nat} (h : ∀ k ∈ L, k ∈ L2) {x : KE} (hx : rfE L x) : rfE L2 x := by
  rcases x with ⟨t, n, f | f | f | f | f⟩ | ⟨ci, fs⟩
  · trivial
  · trivial
  · trivial
  · trivial
  · exact fun j k e => h k (hx j k e)
  · exact fun v hv => (hx v hv).mono h
theorem CLO.up {L : List Nat} {hp : Nat → KE} {k : Nat} {e : KE} (h : CLO L hp) (he : rfE L e) : CLO L (va_up hp k e) := fun j hj => by
  by_cases z : j = k
  · subst z; rw [va_up_self]; exact he
  · rw [va_up_ne _ _ z]; exact h j hj
theorem em_ag {ad ad2 : Nat → Nat} {L : List Nat} (h : ∀ j ∈ L, ad2 j = ad j) {v : Value} (hv : rfV L v) : em ad2 v = em ad v := by
  cases v with
  | ref k => show Value.ref (ad2 k) = Value.ref (ad k); rw [h k (hv k rfl)]
  | _ => rfl
theorem emE_ag {dA ad ad2 : Nat → Nat} {L : List Nat} (h : ∀ j ∈ L, ad2 j = ad j) {x : KE} (hx : rfE L x) : emE dA ad2 x = emE dA ad x := by
  rcases x with ⟨t, n, f | f | f | f | f⟩ | ⟨ci, fs⟩
  · rfl
  · rfl
  · rfl
  · rfl
  · have e : (fun j => (f j).map ad2) = fun j => (f j).map ad := by
      funext j
      cases hf : f j with
      | none => rfl
      | some k => show some (ad2 k) = some (ad k); rw [h k (hx j k hf)]
    show (Sum.inl (dA t, (n, .inr (.inr (.inr (.inr (fun j => (f j).map ad2)))))) : va_E) = _
    rw [e]
    rfl
  · show (Sum.inr (ci, fs.map (em ad2)) : va_E) = Sum.inr (ci, fs.map (em ad))
    rw [List.map_congr_left (fun v hv => em_ag h (hx v hv))]
theorem kw_ag {dA ad ad2 : Nat → Nat} {L : List Nat} {hp : Nat → KE} (h : ∀ j ∈ L, ad2 j = ad j) (hc : CLO L hp) : kw dA ad2 L hp = kw dA ad L hp := List.map_congr_left (fun k hk => by rw [h k hk, emE_ag h (hc k hk)])
theorem kw_push {dA ad : Nat → Nat} {L : List Nat} {hp : Nat → KE} {k q : Nat} {e : KE} (hk : ¬ k ∈ L) (hc : CLO L hp) : kw dA (va_up ad k q) (L ++ [k]) (va_up hp k e) = kw dA ad L hp ++ [(q, emE dA (va_up ad k q) e)] := by
  have h1 : ∀ j ∈ L, va_up ad k q j = ad j := fun j hj => va_up_ne _ _ (fun z => hk (by rw [← z]; exact hj))
  have h2 : kw dA (va_up ad k q) L (va_up hp k e) = kw dA ad L hp := List.map_congr_left (fun j hj => by
    rw [h1 j hj, show va_up hp k e j = hp j from va_up_ne _ _ (fun z => hk (by rw [← z]; exact hj)), emE_ag h1 (hc j hj)])
  rw [← h2]
  show List.map _ (L ++ [k]) = _
  rw [List.map_append, List.map_cons, List.map_nil, va_up_self, va_up_self]
  rfl
theorem D_at {dA ad : Nat → Nat} {L : List Nat} {hp : Nat → KE} {k : Nat} (hk : k ∈ L) : ∃ i : Nat, L[i]? = some k ∧ (kw dA ad L hp)[i]? = some (ad k, emE dA ad (hp k)) := by
  obtain ⟨i, hi⟩ := List.getElem?_of_mem hk
  exact ⟨i, hi, by simp [kw, hi]⟩
theorem D_kinj {dA ad : Nat → Nat} {L : List Nat} {hp : Nat → KE} {A : Nat → Prop} (h : va_D A (kw dA ad L hp)) : kinj ad L ∧ ∀ k ∈ L, A (ad k) := by
  refine ⟨fun a ha b hb e => ?_, fun k hk => ?_⟩
  · obtain ⟨i, i1, i2⟩ := D_at (dA := dA) (ad := ad) (hp := hp) ha
    obtain ⟨j, j1, j2⟩ := D_at (dA := dA) (ad := ad) (hp := hp) hb
    have := h.1 i j _ _ i2 j2 e
    subst this
    exact Option.some.inj (i1.symm.trans j1)
  · obtain ⟨i, i1, i2⟩ := D_at (dA := dA) (ad := ad) (hp := hp) hk
    exact h.2 i _ i2
def kC (D : va_G) (dA ad : Nat → Nat) (L : List Nat) (A : Nat → Prop) (nk : List Nat) (post : (Nat → KE) → Prop) : Array Value → State → Outcome → State → Prop := fun _ st oc t =>
  (oc = .returned none ∧ ∃ (ad2 : Nat → Nat) (hp' : Nat → KE), (∀ j ∈ L, ad2 j = ad j) ∧ kinj ad2 (L ++ nk) ∧ (∀ j ∈ L ++ nk, A (ad2 j)) ∧ CLO (L ++ nk) hp' ∧ post hp' ∧ va_P D kcl (kw dA ad2 (L ++ nk) hp') t.heap) ∧ va_F A st t
/-- a constructor: it makes the cells of the keys nk -/
def KC (l : Launch) (y : MethodName) (cc : ByteArray) (maxL : Nat) (rm : Room) (D : va_G) (dA ad sa : Nat → Nat) (L : List Nat) (av : List Value) (hp : Nat → KE) (nk : List Nat) (post : (Nat → KE) → Prop) : Prop :=
  ∀ sz : Nat, Met l y (Cond.code y cc maxL none :: WW) rm (kPc D dA ad sa L av hp sz) (kC D dA ad L (kA ad L sz) nk post) rm.cells rm.slots (kA ad L sz)
theorem name_of_loose {p : Program} {l : Launch} {e : Env} {s : State} {m : MethodId} {args : Array Value} {below : List Frame} {meth : Method} {c : Code} {s₁ : State} {y : MethodName} {sp : Spec} {cc : ByteArray} {maxL : Nat} {ret : Option FieldType} (B : BodyLoose p l y sp cc maxL ret e s m args below meth c s₁) : meth.name = y.name := (name_of_methodNamed B.named B.method).1
section
variable {p : Program} {l : Launch} {e : Env} {R : Room} {s : State} {m : MethodId} {args : Array Value} {below : List Frame} {meth : Method} {c : Code} {D : va_G} {dA ad sa : Nat → Nat} {L : List Nat} {A : Nat → Prop} {nL cells slots : Nat} {Q : State → Prop} {hp : Nat → KE} {own : String} {cc : ByteArray} {ret : Option FieldType} {tb : List (Nat × Instr × Nat)}
theorem KC.of {y : MethodName} {maxL : Nat} {rm : Room} {av : List Value} {nk : List Nat} {post : (Nat → KE) → Prop} (hy : plainName y.cls = true) (htb : tbOK cc tb = true) (hlen : (lg_sl av).length ≤ maxL) (hj : kinj ad L) (hn : L.Nodup) (hi : y.name = "<init>")
    (body : ∀ (p : Program) (e : Env) (s : State) (m : MethodId) (args : Array Value) (below : List Frame) (meth : Method) (c : Code) (A : Nat → Prop), CX p s m args meth c y.cls cc maxL none tb D dA ad L A → NW A sa s s.heap → meth.name = "<init>" → G p l e rm s m args below meth c D dA ad L A maxL 0 0 (MQ below (kC D dA ad L A nk post) args s rm.cells rm.slots A) hp 0 (lv_args 0 av) []) :
    KC l y cc maxL rm D dA ad sa L av hp nk post := by
  intro sz
  refine Met.ofW (cc := cc) (maxL := maxL) (ret := none) hy rfl ?_
  intro p e s m args below meth c s₁ B hml hv
  obtain ⟨hC, hN, hP, h0, hsz⟩ := cx_of htb hj hn B hml hv
  have K := body p e s m args below meth c _ hC hN ((name_of_loose B).trans hi)
  have hl := lv_entry (av.map (em ad)) (n := maxL) (by rw [sl_len]; exact hlen)
  rw [h0, lg_entry_eq]
  rw [h0] at K
  exact K s.heap [] _ hP va_S.rf (by rw [← args_emL]; exact hl)
/-- a new cell: the world grows by the key k -/
theorem g_grow (hC : CX p s m args meth c own cc nL ret tb D dA ad L A) {k nx : Nat} {x : KE} (hk : ¬ k ∈ L) (hcl : CLO L hp) (hx : rfE (L ++ [k]) x) (hx2 : ∀ a1 a2 : Nat → Nat, emE dA a1 x = emE dA a2 x) {lv : List (Nat × Value)} {st : List Value} (hlv : ∀ q ∈ lv, rfV L q.2) (hst : ∀ v ∈ st, rfV L v) {cells1 slots1 : Nat}
    (kk : ∀ ad2 : Nat → Nat, (∀ j ∈ L, ad2 j = ad j) → CX p s m args meth c own cc nL ret tb D dA ad2 (L ++ [k]) A → CLO (L ++ [k]) (va_up hp k x) → G p l e R s m args below meth c D dA ad2 (L ++ [k]) A nL cells1 slots1 Q (va_up hp k x) nx lv (.ref k :: st))
    {q : Nat} {H1 : Heap} {locs : List Loc} {ls : Array Slot} (hP : va_P D kcl (kw dA ad L hp ++ [(q, emE dA ad x)]) H1) (hD : va_D A (kw dA ad L hp ++ [(q, emE dA ad x)])) (hS : va_S A s.heap H1 locs) (hl : lv_has ls nL (emL ad lv)) : W p l e R s m args below meth c H1 locs cells1 slots1 Q (F0 m nx ls (.ref q :: st.map (em ad))) := by
  have h1 : ∀ j ∈ L, va_up ad k q j = ad j := fun j hj => va_up_ne _ _ (fun z => hk (by rw [← z]; exact hj))
  rw [hx2 ad (va_up ad k q), ← kw_push hk hcl] at hP hD
  obtain ⟨d1, d2⟩ := D_kinj hD
  obtain ⟨c1, c2, c3, c4, c5, c6, c7, c8, c9⟩ := hC
  have hsub : ∀ j ∈ L, j ∈ L ++ [k] := fun j hj => List.mem_append_left _ hj
  have K := kk (va_up ad k q) h1 ⟨c1, c2, c3, c4, c5, d1, List.nodup_append.mpr ⟨c7, List.nodup_cons.mpr ⟨List.not_mem_nil, List.nodup_nil⟩, fun a ha b hb z => hk (by rw [List.mem_singleton.mp hb] at z; rw [← z]; exact ha)⟩, d2, c9⟩ (fun j hj => by
    by_cases z : j = k
    · subst z; rw [va_up_self]; exact hx
    · rw [va_up_ne _ _ z]
      exact (hcl j ((List.mem_append.mp hj).resolve_right (fun w => z (List.mem_singleton.mp w)))).mono hsub)
  have e1 : emL (va_up ad k q) lv = emL ad lv := List.map_congr_left (fun w hw => by rw [em_ag h1 (hlv w hw)])
  have e2 : (Value.ref k :: st).map (em (va_up ad k q)) = .ref q :: st.map (em ad) := by
    rw [List.map_cons, List.map_congr_left (fun v hv => em_ag h1 (hst v hv))]
    show Value.ref (va_up ad k q k) :: _ = _
    rw [va_up_self]
  rw [← e2]
  exact K H1 locs ls hP hS (by rw [e1]; exact hl)
def NEW (own : String) (idx ci : Nat) (fs : List Value) : Prop := kcl[ci]? = some (fC ci, fT ci, fN ci) ∧ Cond.classLink own idx (fC ci) ∈ WW ∧ Cond.instantiable (fC ci) (fN ci) ∈ WW ∧ Cond.initialized (fC ci) ∈ WW ∧ (∀ w ∈ u_ws (fC ci) (fT ci) (fN ci), w ∈ WW) ∧ (∀ k, k < fN ci → parseFieldDescriptor (fT ci k).2.2.1 = some (ftY ci k)) ∧ (∀ j, j < fN ci → defaultValue (ftY ci j) = vp_V fs j) ∧ (∀ v ∈ fs, ∀ k, ¬ v = .ref k)
theorem em_no {ad : Nat → Nat} {fs : List Value} (h : ∀ v ∈ fs, ∀ k, ¬ v = .ref k) : fs.map (em ad) = fs := by
  have h2 : ∀ v ∈ fs, em ad v = v := fun v hv => by
    cases v with
    | ref k => exact absurd rfl (h _ hv k)
    | _ => rfl
  rw [List.map_congr_left h2, List.map_id']
theorem g_new (hC : CX p s m args meth c own cc nL ret tb D dA ad L A) {pc nx idx ci k : Nat} {fs : List Value} (hf : fd tb pc = some (.new idx, nx)) (hN : NEW own idx ci fs) (hk : ¬ k ∈ L) (hcl : CLO L hp) {lv : List (Nat × Value)} {st : List Value} (hlv : ∀ q ∈ lv, rfV L q.2) (hst : ∀ v ∈ st, rfV L v) (hfc : cells + 1 ≤ R.cells ∧ slots + fN ci ≤ R.slots)
    (kk : ∀ ad2 : Nat → Nat, (∀ j ∈ L, ad2 j = ad j) → CX p s m args meth c own cc nL ret tb D dA ad2 (L ++ [k]) A → CLO (L ++ [k]) (va_up hp k (kO ci fs)) → G p l e R s m args below meth c D dA ad2 (L ++ [k]) A nL (cells + 1) (slots + fN ci) Q (va_up hp k (kO ci fs)) nx lv (.ref k :: st)) : G p l e R s m args below meth c D dA ad L A nL cells slots Q hp pc lv st := by
  have hC0 := hC
  obtain ⟨⟨hx, hb, hml, ho, hts⟩, -, -, htb, hK, hj1, hnd, hA, hA2⟩ := hC
  obtain ⟨n, hd, hnx, hn⟩ := fd_ok htb hf
  obtain rfl : n = 3 := hn.resolve_left (by simp [ilen])
  subst hnx
  obtain ⟨n1, n2, n3, n4, n5, n6, n7, n8⟩ := hN
  intro H locs ls hP hS hl
  refine va_new (D := D) (C := fC ci) (T := fT ci) (N := fN ci) hx hb hts n5 (ftY ci) n6 ho (hts _ n2) (hts _ n3) (hts _ n4) hK hP (kw_D hj1 hnd hA) hS hA2 n1 n7 hfc.1 hfc.2 hd (fun q H1 hP1 hD1 hS1 => ?_)
  have e1 : ∀ a1 : Nat → Nat, emE dA a1 (kO ci fs) = (.inr (ci, fs) : va_E) := fun a1 => by
    show (.inr (ci, fs.map (em a1)) : va_E) = _
    rw [em_no n8]
  exact g_grow (x := kO ci fs) hC0 hk hcl (fun v hv k9 e9 => absurd e9 (n8 v hv k9)) (fun a1 a2 => (e1 a1).trans (e1 a2).symm) hlv hst kk (by rw [e1]; exact hP1) (by rw [e1]; exact hD1) hS1 hl
theorem g_newaI (hC : CX p s m args meth c own cc nL ret tb D dA ad L A) {pc nx k N : Nat} (hf : fd tb pc = some (.newarray .int, nx)) (hN : N ≤ 100000) (hk : ¬ k ∈ L) (hcl : CLO L hp) {lv : List (Nat × Value)} {st : List Value} (hlv : ∀ q ∈ lv, rfV L q.2) (hst : ∀ v ∈ st, rfV L v) (hfc : cells + 1 ≤ R.cells ∧ slots + N ≤ R.slots)
    (kk : ∀ ad2 : Nat → Nat, (∀ j ∈ L, ad2 j = ad j) → CX p s m args meth c own cc nL ret tb D dA ad2 (L ++ [k]) A → CLO (L ++ [k]) (va_up hp k (kI N (fun _ => 0))) → G p l e R s m args below meth c D dA ad2 (L ++ [k]) A nL (cells + 1) (slots + N) Q (va_up hp k (kI N (fun _ => 0))) nx lv (.ref k :: st)) : G p l e R s m args below meth c D dA ad L A nL cells slots Q hp pc lv (.int (nI N) :: st) := by
  have hC0 := hC
  obtain ⟨⟨hx, hb, hml, ho, hts⟩, -, -, htb, hK, hj1, hnd, hA, hA2⟩ := hC
  obtain ⟨n, hd, hnx, hn⟩ := fd_ok htb hf
  obtain rfl : n = 2 := hn.resolve_left (by simp [ilen])
  subst hnx
  intro H locs ls hP hS hl
  refine va_newa (D := D) (atype := .int) (ty := .int) (a0 := (N, .inl (fun _ => 0))) hx hb (hts _ aC_int) rfl hK hP (kw_D hj1 hnd hA) hS hA2 (fun _ => rfl) (nI_pos (by omega)) (nI_clamp (by omega)) (by show N * 4 ≤ _; omega) hfc.1 hfc.2 hd (fun q cA H1 hK1 hP1 hD1 hS1 => ?_)
  have e1 : cA = dA 0 := by
    have h1 : s.vm.findClass ("[" ++ FieldType.int.toString) = some (dA 0) := (hK.2 0 _ rfl).2
    have h2 : s.vm.findClass ("[" ++ FieldType.int.toString) = some cA := (hK1.2 4 (cA, .int) rfl).2
    exact Option.some.inj (h2.symm.trans h1)
  subst e1
  exact g_grow (x := kI N (fun _ => 0)) hC0 hk hcl trivial (fun _ _ => rfl) hlv hst kk hP1 hD1 hS1 hl
theorem g_newaJ (hC : CX p s m args meth c own cc nL ret tb D dA ad L A) {pc nx k N : Nat} (hf : fd tb pc = some (.newarray .long, nx)) (hN : N ≤ 100000) (hk : ¬ k ∈ L) (hcl : CLO L hp) {lv : List (Nat × Value)} {st : List Value} (hlv : ∀ q ∈ lv, rfV L q.2) (hst : ∀ v ∈ st, rfV L v) (hfc : cells + 1 ≤ R.cells ∧ slots + N ≤ R.slots)
    (kk : ∀ ad2 : Nat → Nat, (∀ j ∈ L, ad2 j = ad j) → CX p s m args meth c own cc nL ret tb D dA ad2 (L ++ [k]) A → CLO (L ++ [k]) (va_up hp k (kJ N (fun _ => 0))) → G p l e R s m args below meth c D dA ad2 (L ++ [k]) A nL (cells + 1) (slots + N) Q (va_up hp k (kJ N (fun _ => 0))) nx lv (.ref k :: st)) : G p l e R s m args below meth c D dA ad L A nL cells slots Q hp pc lv (.int (nI N) :: st) := by
  have hC0 := hC
  obtain ⟨⟨hx, hb, hml, ho, hts⟩, -, -, htb, hK, hj1, hnd, hA, hA2⟩ := hC
  obtain ⟨n, hd, hnx, hn⟩ := fd_ok htb hf
  obtain rfl : n = 2 := hn.resolve_left (by simp [ilen])
  subst hnx
  intro H locs ls hP hS hl
  refine va_newa (D := D) (atype := .long) (ty := .long) (a0 := (N, .inr (.inl (fun _ => 0)))) hx hb (hts _ aC_long) rfl hK hP (kw_D hj1 hnd hA) hS hA2 (fun _ => rfl) (nI_pos (by omega)) (nI_clamp (by omega)) (by show N * 8 ≤ _; omega) hfc.1 hfc.2 hd (fun q cA H1 hK1 hP1 hD1 hS1 => ?_)
  have e1 : cA = dA 1 := by
    have h1 : s.vm.findClass ("[" ++ FieldType.long.toString) = some (dA 1) := (hK.2 1 _ rfl).2
    have h2 : s.vm.findClass ("[" ++ FieldType.long.toString) = some cA := (hK1.2 4 (cA, .long) rfl).2
    exact Option.some.inj (h2.symm.trans h1)
  subst e1
  exact g_grow (x := kJ N (fun _ => 0)) hC0 hk hcl trivial (fun _ _ => rfl) hlv hst kk hP1 hD1 hS1 hl
end
end
section
theorem aO_0 : Cond.arrayOver (.object RX0) ∈ TW := TW_of (by decide +kernel) rfl
theorem aO_1 : Cond.arrayOver (.object RX1) ∈ TW := TW_of (by decide +kernel) rfl
section
variable {p : Program} {l : Launch} {e : Env} {R : Room} {s : State} {m : MethodId} {args : Array Value} {below : List Frame} {meth : Method} {c : Code} {D : va_G} {dA ad sa : Nat → Nat} {L : List Nat} {A : Nat → Prop} {nL cells slots : Nat} {Q : State → Prop} {hp : Nat → KE} {own : String} {cc : ByteArray} {ret : Option FieldType} {tb : List (Nat × Instr × Nat)}
theorem g_newaQ (hC : CX p s m args meth c own cc nL ret tb D dA ad L A) (hN : NW A sa s s.heap) {pc nx k N t idx : Nat} {C : String} (hf : fd tb pc = some (.anewarray idx, nx)) (hcl9 : Cond.classLink own idx C ∈ WW) (ho9 : Cond.arrayOver (.object C) ∈ TW) (ht : (tysW dA)[t]? = some (dA t, .object C)) (hN9 : N ≤ 100000) (hk : ¬ k ∈ L) (hcl : CLO L hp) {lv : List (Nat × Value)} {st : List Value} (hlv : ∀ q ∈ lv, rfV L q.2) (hst : ∀ v ∈ st, rfV L v) (hfc : cells + 1 ≤ R.cells ∧ slots + N ≤ R.slots)
    (kk : ∀ ad2 : Nat → Nat, (∀ j ∈ L, ad2 j = ad j) → CX p s m args meth c own cc nL ret tb D dA ad2 (L ++ [k]) A → CLO (L ++ [k]) (va_up hp k (kQ t N (fun _ => none))) → G p l e R s m args below meth c D dA ad2 (L ++ [k]) A nL (cells + 1) (slots + N) Q (va_up hp k (kQ t N (fun _ => none))) nx lv (.ref k :: st)) : G p l e R s m args below meth c D dA ad L A nL cells slots Q hp pc lv (.int (nI N) :: st) := by
  have hC0 := hC
  obtain ⟨⟨hx, hb, hml, ho, hts⟩, -, -, htb, hK, hj1, hnd, hA, hA2⟩ := hC
  obtain ⟨n, hd, hnx, hn⟩ := fd_ok htb hf
  obtain rfl : n = 3 := hn.resolve_left (by simp [ilen])
  subst hnx
  intro H locs ls hP hS hl
  refine va_newq (D := D) hx hb ho (hts _ hcl9) (hN.1 _ ho9) hK hP (kw_D hj1 hnd hA) hS hA2 (nI_pos (n := N) (by omega)) (nI_clamp (by omega)) (by omega) hfc.1 hfc.2 hd (fun q cA H1 hK1 hP1 hD1 hS1 => ?_)
  have e1 : cA = dA t := by
    obtain ⟨-, -, -, -, -, h1⟩ := (hK.2 t _ ht).2
    obtain ⟨-, -, -, -, -, h2⟩ := (hK1.2 4 (cA, .object C) rfl).2
    exact Option.some.inj (h2.symm.trans h1)
  subst e1
  exact g_grow (x := kQ t N (fun _ => none)) hC0 hk hcl (fun _ _ h => by cases h) (fun _ _ => rfl) hlv hst kk hP1 hD1 hS1 hl
theorem g_putF (hC : CX p s m args meth c own cc nL ret tb D dA ad L A) (hI : meth.name = "<init>") {pc nx idx ci j k : Nat} {fs : List Value} {v : Value} {lv : List (Nat × Value)} {st : List Value} (hf : fd tb pc = some (.putfield idx, nx)) (hF : FLD own idx ci j) (hk : k ∈ L) (hh : hp k = kO ci fs) (hj : j < fs.length) (hfin : (fT ci j).2.2.2 = true) (hdc : (fT ci j).1 = own)
    (hn2 : narrow (ftY ci j) (em ad v) = em ad v) (hfit : fits (ftY ci j) (em ad v) = true)
    (kk : G p l e R s m args below meth c D dA ad L A nL cells slots Q (va_up hp k (kO ci (fs.set j v))) nx lv st) : G p l e R s m args below meth c D dA ad L A nL cells slots Q hp pc lv (v :: .ref k :: st) := by
  obtain ⟨⟨hx, hb, hml, ho, hts⟩, -, -, htb, hK, hj1, hnd, hA, -⟩ := hC
  obtain ⟨n, hd, hnx, hn⟩ := fd_ok htb hf
  obtain rfl : n = 3 := hn.resolve_left (by simp [ilen])
  subst hnx
  obtain ⟨⟨h1, h2, h3, h4, h5⟩, h6, h7⟩ := hF
  intro H locs ls hP hS hl
  obtain ⟨i, hi⟩ := kw_get (dA := dA) (ad := ad) (hp := hp) hk
  have hi0 := hi
  rw [hh] at hi
  refine va_putF (D := D) (C := fC ci) (T := fT ci) (N := fN ci) (ref := fC ci) hx hb hts h5 (ftY ci) h6 h7 ho hK hP (kw_D hj1 hnd hA) hS i hi h1 j h2 (hts _ h3) (fun x h => by rw [h4] at h; exact h) hfin hI hdc (h6 j h2) hn2 hfit (by rw [List.length_map]; exact hj) hd (fun H1 locs1 hP1 _ hS1 => ?_)
  have e1 : ((.inr (ci, (fs.map (em ad)).set j (em ad v))) : va_E) = emE dA ad (kO ci (fs.set j v)) := by
    show _ = (.inr (ci, (fs.set j v).map (em ad)) : va_E)
    rw [List.map_set]
  rw [e1, kw_set hj1 hnd hk hi0] at hP1
  exact kk H1 locs1 ls hP1 hS1 hl
theorem g_obj (hC : CX p s m args meth c own cc nL ret tb D dA ad L A) {pc nx idx k : Nat} {lv : List (Nat × Value)} {st : List Value} (hf : fd tb pc = some (.invokespecial idx, nx)) (hm : Cond.methodLink own idx (⟨"java/lang/Object", "<init>", "()V"⟩ : MethodName) ∈ WW) (hR : 1 ≤ R.frames ∧ (st.map fun v => v.category).sum + 12 ≤ R.locals)
    (kk : G p l e R s m args below meth c D dA ad L A nL cells slots Q hp nx lv st) : G p l e R s m args below meth c D dA ad L A nL cells slots Q hp pc lv (.ref k :: st) := by
  obtain ⟨⟨hx, hb, hml, ho, hts⟩, -, -, htb, -⟩ := hC
  obtain ⟨n, hd, hnx, hn⟩ := fd_ok htb hf
  obtain rfl : n = 3 := hn.resolve_left (by simp [ilen])
  subst hnx
  intro H locs ls hP hS hl
  exact W.objInit hx hb ho (hts _ hm) (hts _ yI_objinit) (hts _ cd_objinit) (g := F0 m pc ls (.ref (ad k) :: st.map (em ad))) rfl (hl.1.trans hml.symm) rfl hd hR.1 (by show 2 * 0 + _ + 12 ≤ _; rw [em_cats]; omega) (kk H locs ls hP hS hl)
theorem up_map (ad : Nat → Nat) (f : Nat → Option Nat) (j v : Nat) : (fun i => (va_up f j (some v) i).map ad) = va_up (fun i => (f i).map ad) j (some (ad v)) := by
  funext i
  by_cases h : i = j
  · subst h; rw [va_up_self, va_up_self]; rfl
  · rw [va_up_ne _ _ h, va_up_ne _ _ h]
theorem g_ast (hC : CX p s m args meth c own cc nL ret tb D dA ad L A) {pc nx k n t v ci : Nat} {f : Nat → Option Nat} {fs : List Value} {i : Int32} {lv : List (Nat × Value)} {st : List Value} (j : Nat) (hf : fd tb pc = some (.aastore, nx)) (hk : k ∈ L) (hh : hp k = kQ t n f) (ht : (tysW dA)[t]? = some (dA t, .object (fC ci))) (hv : v ∈ L) (hv2 : hp v = kO ci fs) (hci : kcl[ci]? = some (fC ci, fT ci, fN ci)) (hi : i = nI j) (hj : j < n) (hn : n < 2 ^ 31)
    (kk : G p l e R s m args below meth c D dA ad L A nL cells slots Q (va_up hp k (kQ t n (va_up f j (some v)))) nx lv st) : G p l e R s m args below meth c D dA ad L A nL cells slots Q hp pc lv (.ref v :: .int i :: .ref k :: st) := by
  obtain ⟨⟨hx, hb, hml, ho, hts⟩, -, -, htb, hK, hj1, hnd, hA, -⟩ := hC
  obtain ⟨n9, hd, hnx, hn9⟩ := fd_ok htb hf
  obtain rfl : n9 = 1 := hn9.resolve_left (by simp [ilen])
  subst hnx
  subst hi
  intro H locs ls hP hS hl
  obtain ⟨i, hi⟩ := kw_get (dA := dA) (ad := ad) (hp := hp) hk
  have hi0 := hi
  rw [hh] at hi
  obtain ⟨i2, hi2⟩ := kw_get (dA := dA) (ad := ad) (hp := hp) hv
  rw [hv2] at hi2
  refine va_astq hx hb hK hP (kw_D hj1 hnd hA) hS i t i2 ci (f := fun j => (f j).map ad) hi ht hi2 hci (vp_in_nI hj hn) hd (fun H1 locs1 hP1 _ hS1 => ?_)
  rw [nI_clamp (Nat.lt_trans hj hn), ← up_map] at hP1
  have e1 : ((.inl (dA t, n, .inr (.inr (.inr (.inr (fun i => (va_up f j (some v) i).map ad)))))) : va_E) = emE dA ad (kQ t n (va_up f j (some v))) := rfl
  rw [e1, kw_set hj1 hnd hk hi0] at hP1
  exact kk H1 locs1 ls hP1 hS1 hl
theorem gC_ret {ad0 : Nat → Nat} {L0 nk : List Nat} (hC : CX p s m args meth c own cc nL none tb D dA ad L A) {pc nx mc ms : Nat} {lv : List (Nat × Value)} {post : (Nat → KE) → Prop} (hf : fd tb pc = some (.return_, nx)) (hL : L = L0 ++ nk) (hag : ∀ j ∈ L0, ad j = ad0 j) (hcl : CLO L hp) (hpost : post hp) (h1 : cells ≤ mc) (h2 : slots ≤ ms) :
    G p l e R s m args below meth c D dA ad L A nL cells slots (MQ below (kC D dA ad0 L0 A nk post) args s mc ms A) hp pc lv [] := by
  subst hL
  obtain ⟨⟨hx, hb, -, -, -⟩, hr, hlk, htb, hK, hj, hnd, hA, hA2⟩ := hC
  obtain ⟨n, hd, hnx, hn⟩ := fd_ok htb hf
  obtain rfl : n = 1 := hn.resolve_left (by simp [ilen])
  intro H locs ls hP hS hl
  exact W.widen h1 h2 (W.vret hx hb hr (fun t ht hW => ⟨⟨rfl, ad, hp, hag, hj, hA, hcl, hpost, by rw [ht]; exact hP⟩, hS.F ht⟩) hS.2.2 hd hlk)
theorem k_runC {H : Heap} {locs : List Loc} {mc ms pc : Nat} {ls : Array Slot} {st0 rest : List Value} {a : Array Value} {A1 free : Nat → Prop} {nk : List Nat} {post : (Nat → KE) → Prop} (hr : va_Run p l e R s m args below meth c H locs cells slots mc ms (F0 m pc ls st0) rest (kC D dA ad L A1 nk post a) free) (hS : va_S A s.heap H locs) (hA : ∀ q, A1 q → A q) (hf : ∀ q, free q → A q)
    (kk : ∀ (ad2 : Nat → Nat) (hp' : Nat → KE) (H1 : Heap) (locs1 : List Loc), (∀ j ∈ L, ad2 j = ad j) → kinj ad2 (L ++ nk) → (∀ j ∈ L ++ nk, A1 (ad2 j)) → CLO (L ++ nk) hp' → post hp' → va_P D kcl (kw dA ad2 (L ++ nk) hp') H1 → va_S A s.heap H1 locs1 → W p l e R s m args below meth c H1 locs1 (cells + mc) (slots + ms) Q (F0 m (pc + 3) ls rest)) : W p l e R s m args below meth c H locs cells slots Q (F0 m pc ls st0) := by
  intro T hT X
  obtain ⟨v, st₀, t, T', L1, h0, X', hL, e1, e2, ⟨⟨hv, ad2, hp', g1, g2, g3, g4, g5, g6⟩, hF⟩, st⟩ := hr T hT X
  cases hv
  obtain ⟨k1, k2, k3⟩ := vx_keep h0 e1 hS (fun q _ h => hA q h) hf hL hF
  obtain ⟨t2, a1, b1⟩ := kk ad2 hp' T'.heap (locs ++ L1) g1 g2 g3 g4 g5 (by rw [e1]; exact g6) k3 T' rfl X'
  exact ⟨t2, st t2 a1, b1⟩
def MIK (y : MethodName) (cc : ByteArray) (maxL : Nat) : Prop := (Cond.instanceMethod y ∈ WW ∧ Cond.initialized y.cls ∈ WW ∧ Cond.code y cc maxL none ∈ WW) ∧ y.name = "<init>" ∧ (y.cls ≠ "java/lang/invoke/MethodHandle" ∧ y.cls ≠ "java/lang/invoke/VarHandle" ∧ (parseMethodDescriptor y.desc).map (fun d => d.parameters.length) = some 0)
theorem g_initW (hC : CX p s m args meth c own cc nL ret tb D dA ad L A) {pc : Nat} {nk : List Nat} (hnk : (L ++ nk).Nodup) {lv : List (Nat × Value)} {rest : List Value} (hlv : ∀ q ∈ lv, rfV L q.2) (hrs : ∀ v ∈ rest, rfV L v) {post : (Nat → KE) → Prop} {cells1 slots1 : Nat}
    (kk : ∀ (ad2 : Nat → Nat) (hp' : Nat → KE), (∀ j ∈ L, ad2 j = ad j) → CX p s m args meth c own cc nL ret tb D dA ad2 (L ++ nk) A → CLO (L ++ nk) hp' → post hp' → G p l e R s m args below meth c D dA ad2 (L ++ nk) A nL cells1 slots1 Q hp' (pc + 3) lv rest)
    {H0 : Heap} {locs0 : List Loc} (hS0 : va_S A s.heap H0 locs0) {ls : Array Slot} (hl : lv_has ls nL (emL ad lv)) (ad2 : Nat → Nat) (hp' : Nat → KE) (H1 : Heap) (locs1 : List Loc) (g1 : ∀ j ∈ L, ad2 j = ad j) (g2 : kinj ad2 (L ++ nk)) (g3 : ∀ j ∈ L ++ nk, kA ad L H0.size (ad2 j)) (g4 : CLO (L ++ nk) hp') (g5 : post hp') (g6 : va_P D kcl (kw dA ad2 (L ++ nk) hp') H1) (hS : va_S A s.heap H1 locs1) : W p l e R s m args below meth c H1 locs1 cells1 slots1 Q (F0 m (pc + 3) ls (rest.map (em ad))) := by
  obtain ⟨c1, c2, c3, c4, c5, c6, c7, c8, c9⟩ := hC
  have K := kk ad2 hp' g1 ⟨c1, c2, c3, c4, c5, g2, hnk, fun j hj => kA_sub c8 c9 hS0 _ (g3 j hj), c9⟩ g4 g5
  have e1 : emL ad2 lv = emL ad lv := List.map_congr_left (fun w hw => by rw [em_ag g1 (hlv w hw)])
  have e2 : rest.map (em ad2) = rest.map (em ad) := List.map_congr_left (fun v hv => em_ag g1 (hrs v hv))
  rw [← e2]
  exact K H1 locs1 ls g6 hS (by rw [e1]; exact hl)
set_option maxHeartbeats 2000000 in
theorem g_initN (hC : CX p s m args meth c own cc nL ret tb D dA ad L A) (hN : NW A sa s s.heap) {pc nx idx maxL2 k : Nat} {y : MethodName} {bytes : ByteArray} {rm2 : Room} {rest : List Value} {lv : List (Nat × Value)} {nk : List Nat} {post : (Nat → KE) → Prop} (hM : KC l y bytes maxL2 rm2 D dA ad sa L [.ref k] hp nk post) (hf : fd tb pc = some (.invokespecial idx, nx)) (hq : (own, idx, y) ∈ nests) (hm : MIK y bytes maxL2) (hnk : (L ++ nk).Nodup) (hlv : ∀ q ∈ lv, rfV L q.2) (hrs : ∀ v ∈ rest, rfV L v) (hw : (rest.map fun v => v.category).sum ≤ 8) (hR : rm2.frames + 1 ≤ R.frames ∧ 8 + (maxL2 + 11) + rm2.locals ≤ R.locals) (hfc : cells + rm2.cells ≤ R.cells ∧ slots + rm2.slots ≤ R.slots)
    (kk : ∀ (ad2 : Nat → Nat) (hp' : Nat → KE), (∀ j ∈ L, ad2 j = ad j) → CX p s m args meth c own cc nL ret tb D dA ad2 (L ++ nk) A → CLO (L ++ nk) hp' → post hp' → G p l e R s m args below meth c D dA ad2 (L ++ nk) A nL (cells + rm2.cells) (slots + rm2.slots) Q hp' nx lv rest) : G p l e R s m args below meth c D dA ad L A nL cells slots Q hp pc lv (.ref k :: rest) := by
  have hC0 := hC
  obtain ⟨⟨hx, hb, hml, ho, hts⟩, hr9, hlk, htb, hK, hj1, hnd, hA, hA2⟩ := hC
  obtain ⟨n9, hd, hnx, hn9⟩ := fd_ok htb hf
  obtain rfl : n9 = 3 := hn9.resolve_left (by simp [ilen])
  subst hnx
  intro H locs ls hP hS hl
  have hrun := va_runIN (e := e) (below := below) (meth := meth) (locs := locs) (cells := cells) (slots := slots) (host := RX2) (b := ad k) (As := []) (rest := rest.map (em ad)) (g := F0 m pc ls ((.ref k :: rest).map (em ad))) ⟨hx, hb, hml, ho, hts⟩ (hM H.size) ⟨va_cnB 0 hts (goodIn_c hm.1.2.2) rfl rfl rfl (hN.2.1 _ hq) (hts _ hm.1.2.1) hm.2.2 hR, hm.2.1, hts _ hm.1.1⟩ ⟨kPc_blind D dA ad sa L [.ref k] hp H.size, k_pre hC0 hN hP hS⟩ rfl rfl hl.1 rfl (lv_room (by rw [em_cats]; exact hw)) hd hfc
  exact k_runC hrun hS (kA_sub hA hA2 hS) (kA_sub hA hA2 hS) (g_initW hC0 hnk hlv hrs kk hS hl)
end
end
section
/-! constructors -/
def nks (s : Nat) : Nat → List Nat
  | 0 => []
  | n + 1 => nks s n ++ [s + n]
theorem nks_mem {s k : Nat} : ∀ {n : Nat}, k ∈ nks s n → s ≤ k ∧ k < s + n
  | 0, h => by cases h
  | n + 1, h => by
    rcases List.mem_append.mp h with h | h
    · have := nks_mem h; omega
    · have := List.mem_singleton.mp h; omega
theorem nks_of {s k : Nat} : ∀ {n : Nat}, s ≤ k → k < s + n → k ∈ nks s n
  | 0, h1, h2 => by omega
  | n + 1, h1, h2 => by
    by_cases z : k = s + n
    · exact List.mem_append_right _ (List.mem_singleton.mpr z)
    · exact List.mem_append_left _ (nks_of h1 (by omega))
theorem nks_nd {s : Nat} : ∀ {n : Nat}, (nks s n).Nodup
  | 0 => List.nodup_nil
  | n + 1 => List.nodup_append.mpr ⟨nks_nd, List.nodup_cons.mpr ⟨List.not_mem_nil, List.nodup_nil⟩, fun a ha b hb z => by
      have h1 := nks_mem ha
      have h2 := List.mem_singleton.mp hb
      omega⟩
theorem nks1 (L : List Nat) (s n : Nat) : (L ++ nks s n) ++ [s + n] = L ++ nks s (n + 1) := by rw [List.append_assoc]; rfl
theorem nks2 (L : List Nat) (s n : Nat) : (L ++ nks s n) ++ [s + n, s + n + 1] = L ++ nks s (n + 2) := by
  show _ = L ++ ((nks s n ++ [s + n]) ++ [s + (n + 1)])
  simp [Nat.add_assoc]
theorem nks_app {L : List Nat} {s n : Nat} (hn : L.Nodup) (h : ∀ k ∈ L, k < s ∨ s + n ≤ k) : (L ++ nks s n).Nodup := List.nodup_append.mpr ⟨hn, nks_nd, fun a ha b hb z => by
  have h1 := nks_mem hb
  have h2 := h a ha
  omega⟩
theorem sv_nil {L : List Nat} : ∀ v ∈ ([] : List Value), rfV L v := fun _ h => by cases h
theorem sv_cons {L : List Nat} {v : Value} {st : List Value} (h : rfV L v) (h2 : ∀ w ∈ st, rfV L w) : ∀ w ∈ v :: st, rfV L w := fun w hw => by
  rcases List.mem_cons.mp hw with e | e
  · rw [e]; exact h
  · exact h2 w e
theorem lv_nil {L : List Nat} : ∀ q ∈ ([] : List (Nat × Value)), rfV L q.2 := fun _ h => by cases h
theorem lv_cons {L : List Nat} {i : Nat} {v : Value} {lv : List (Nat × Value)} (h : rfV L v) (h2 : ∀ w ∈ lv, rfV L w.2) : ∀ w ∈ (i, v) :: lv, rfV L w.2 := fun w hw => by
  rcases List.mem_cons.mp hw with e | e
  · rw [e]; exact h
  · exact h2 w e
theorem rv {L : List Nat} {k : Nat} (h : k ∈ L) : rfV L (.ref k) := fun j e => by cases e; exact h
theorem ri {L : List Nat} {x : Int32} : rfV L (.int x) := fun j e => by cases e
theorem rn {L : List Nat} : rfV L .null := fun j e => by cases e
theorem CLO.put {L : List Nat} {hp : Nat → KE} {ci j k : Nat} {fs : List Value} {v : Value} (h : CLO L hp) (hk : k ∈ L) (hh : hp k = kO ci fs) (hv : rfV L v) : CLO L (va_up hp k (kO ci (fs.set j v))) := by
  refine h.up (fun w hw => ?_)
  have h1 := h k hk
  rw [hh] at h1
  rcases List.mem_or_eq_of_mem_set hw with e | e
  · exact h1 w e
  · rw [e]; exact hv
theorem cnt0 : cnt (fun _ => 0) = 0 := cntN_zero 512
section
variable {p : Program} {l : Launch} {e : Env} {R : Room} {s : State} {m : MethodId} {args : Array Value} {below : List Frame} {meth : Method} {c : Code} {D : va_G} {dA ad sa : Nat → Nat} {L : List Nat} {A : Nat → Prop} {nL cells slots : Nat} {Q : State → Prop} {hp : Nat → KE} {own : String} {cc : ByteArray} {ret : Option FieldType} {tb : List (Nat × Instr × Nat)}
theorem g_putA (hC : CX p s m args meth c own cc nL ret tb D dA ad L A) {pc nx idx ci j k : Nat} {fs : List Value} {v : Value} {lv : List (Nat × Value)} {st : List Value} (hf : fd tb pc = some (.putfield idx, nx)) (hF : FLD own idx ci j) (hk : k ∈ L) (hh : hp k = kO ci fs) (hj : j < fs.length) (hfin : (fT ci j).2.2.2 = false ∨ ((fT ci j).2.2.2 = true ∧ (fT ci j).1 = own ∧ meth.name = "<init>"))
    (hn2 : narrow (ftY ci j) (em ad v) = em ad v) (hfit : fits (ftY ci j) (em ad v) = true)
    (kk : G p l e R s m args below meth c D dA ad L A nL cells slots Q (va_up hp k (kO ci (fs.set j v))) nx lv st) : G p l e R s m args below meth c D dA ad L A nL cells slots Q hp pc lv (v :: .ref k :: st) := by
  rcases hfin with h | ⟨h1, h2, h3⟩
  · exact g_put hC hf hF hk hh hj h hn2 hfit kk
  · exact g_putF hC h3 hf hF hk hh hj h1 h2 hn2 hfit kk
/-- newarray, putfield -/
theorem g_mkI (hC : CX p s m args meth c own cc nL ret tb D dA ad L A) {pc nx nx2 k q N idx ci j : Nat} {fs : List Value} (hf : fd tb pc = some (.newarray .int, nx)) (hf2 : fd tb nx = some (.putfield idx, nx2)) (hF : FLD own idx ci j) (hk : k ∈ L) (hh : hp k = kO ci fs) (hj : j < fs.length) (hfin : (fT ci j).2.2.2 = false ∨ ((fT ci j).2.2.2 = true ∧ (fT ci j).1 = own ∧ meth.name = "<init>"))
    (hty : ftY ci j = .array .int) (hN : N ≤ 100000) (hq : ¬ q ∈ L) (hcl : CLO L hp) {lv : List (Nat × Value)} {st : List Value} (hlv : ∀ w ∈ lv, rfV L w.2) (hst : ∀ v ∈ st, rfV L v) (hfc : cells + 1 ≤ R.cells ∧ slots + N ≤ R.slots)
    (kk : ∀ ad2 : Nat → Nat, (∀ i ∈ L, ad2 i = ad i) → CX p s m args meth c own cc nL ret tb D dA ad2 (L ++ [q]) A → CLO (L ++ [q]) (va_up (va_up hp q (kI N (fun _ => 0))) k (kO ci (fs.set j (.ref q)))) → G p l e R s m args below meth c D dA ad2 (L ++ [q]) A nL (cells + 1) (slots + N) Q (va_up (va_up hp q (kI N (fun _ => 0))) k (kO ci (fs.set j (.ref q)))) nx2 lv st) :
    G p l e R s m args below meth c D dA ad L A nL cells slots Q hp pc lv (.int (nI N) :: .ref k :: st) := by
  refine g_newaI hC hf hN hq hcl hlv (sv_cons (rv hk) hst) hfc (fun ad2 h1 hC2 hcl2 => ?_)
  have hk2 : k ∈ L ++ [q] := List.mem_append_left _ hk
  have hh2 : va_up hp q (kI N (fun _ => 0)) k = kO ci fs := (va_up_ne _ _ (fun z => hq (by rw [← z]; exact hk))).trans hh
  exact g_putA hC2 hf2 hF hk2 hh2 hj hfin (by rw [hty]; rfl) (by rw [hty]; rfl) (kk ad2 h1 hC2 (hcl2.put hk2 hh2 (rv (List.mem_append_right _ (List.mem_singleton.mpr rfl)))))
theorem g_mkJ (hC : CX p s m args meth c own cc nL ret tb D dA ad L A) {pc nx nx2 k q N idx ci j : Nat} {fs : List Value} (hf : fd tb pc = some (.newarray .long, nx)) (hf2 : fd tb nx = some (.putfield idx, nx2)) (hF : FLD own idx ci j) (hk : k ∈ L) (hh : hp k = kO ci fs) (hj : j < fs.length) (hfin : (fT ci j).2.2.2 = false ∨ ((fT ci j).2.2.2 = true ∧ (fT ci j).1 = own ∧ meth.name = "<init>"))
    (hty : ftY ci j = .array .long) (hN : N ≤ 100000) (hq : ¬ q ∈ L) (hcl : CLO L hp) {lv : List (Nat × Value)} {st : List Value} (hlv : ∀ w ∈ lv, rfV L w.2) (hst : ∀ v ∈ st, rfV L v) (hfc : cells + 1 ≤ R.cells ∧ slots + N ≤ R.slots)
    (kk : ∀ ad2 : Nat → Nat, (∀ i ∈ L, ad2 i = ad i) → CX p s m args meth c own cc nL ret tb D dA ad2 (L ++ [q]) A → CLO (L ++ [q]) (va_up (va_up hp q (kJ N (fun _ => 0))) k (kO ci (fs.set j (.ref q)))) → G p l e R s m args below meth c D dA ad2 (L ++ [q]) A nL (cells + 1) (slots + N) Q (va_up (va_up hp q (kJ N (fun _ => 0))) k (kO ci (fs.set j (.ref q)))) nx2 lv st) :
    G p l e R s m args below meth c D dA ad L A nL cells slots Q hp pc lv (.int (nI N) :: .ref k :: st) := by
  refine g_newaJ hC hf hN hq hcl hlv (sv_cons (rv hk) hst) hfc (fun ad2 h1 hC2 hcl2 => ?_)
  have hk2 : k ∈ L ++ [q] := List.mem_append_left _ hk
  have hh2 : va_up hp q (kJ N (fun _ => 0)) k = kO ci fs := (va_up_ne _ _ (fun z => hq (by rw [← z]; exact hk))).trans hh
  exact g_putA hC2 hf2 hF hk2 hh2 hj hfin (by rw [hty]; rfl) (by rw [hty]; rfl) (kk ad2 h1 hC2 (hcl2.put hk2 hh2 (rv (List.mem_append_right _ (List.mem_singleton.mpr rfl)))))
end
section
variable {l : Launch} {D : va_G} {dA ad sa : Nat → Nat} {L : List Nat} {hp : Nat → KE}
theorem c_X1_init {q : Nat} (hj : kinj ad L) (hn : L.Nodup) (hk : q ∈ L) (hq : ¬ q + 1 ∈ L) (hcl : CLO L hp) (hh : hp q = kO 1 [.null, .int 0]) : KC l yX1_init cX1_init 1 (rmK 1 1 512) D dA ad sa L [.ref q] hp [q + 1] (fun hp' => hp' = setP hp q (fun _ => 0)) := by
  refine KC.of rfl ok_X1_init (len_of rfl) hj hn rfl ?_
  intro p e s m args below meth c A hC hN hI
  refine g_run hC 1 rfl ?_
  refine g_obj hC rfl mL_X1_3 ⟨by decide, by decide⟩ ?_
  refine g_run hC 2 rfl ?_
  refine g_mkJ (N := 512) (q := q + 1) hC rfl rfl F_X1_9 hk hh (by decide) (Or.inr ⟨rfl, rfl, hI⟩) rfl (by decide) hq hcl (lv_cons (rv hk) lv_nil) sv_nil ⟨by decide, by decide⟩ (fun ad2 h1 hC2 hcl2 => ?_)
  refine gC_ret hC2 rfl rfl h1 hcl2 ?_ (by decide) (by decide)
  unfold setP
  rw [cnt0]
  rfl
theorem c_X0_init {g : Nat} (hj : kinj ad L) (hn : L.Nodup) (hk : g ∈ L) (hq : ¬ g + 1 ∈ L) (hq2 : ¬ g + 2 ∈ L) (hcl : CLO L hp) (hh : hp g = kO 0 [.int 0, .int 0, .int 0, .int 0, .null, .null]) : KC l yX0_init cX0_init 1 (rmK 1 2 16) D dA ad sa L [.ref g] hp [g + 1, g + 2] (fun hp' => GateAt hp' g 0 0 0 0 (fun _ => 0) (fun _ => 0) ∧ ∀ k, k ≠ g → k ≠ g + 1 → k ≠ g + 2 → hp' k = hp k) := by
  refine KC.of rfl ok_X0_init (len_of rfl) hj hn rfl ?_
  intro p e s m args below meth c A hC hN hI
  refine g_run hC 1 rfl ?_
  refine g_obj hC rfl mL_X0_3 ⟨by decide, by decide⟩ ?_
  refine g_run hC 2 rfl ?_
  refine g_mkI (N := 8) (q := g + 1) hC rfl rfl F_X0_11 hk hh (by decide) (Or.inr ⟨rfl, rfl, hI⟩) rfl (by decide) hq hcl (lv_cons (rv hk) lv_nil) sv_nil ⟨by decide, by decide⟩ (fun ad2 h1 hC2 hcl2 => ?_)
  have hk2 : g ∈ L ++ [g + 1] := List.mem_append_left _ hk
  refine g_run hC2 2 rfl ?_
  refine g_mkJ (N := 8) (q := g + 2) hC2 rfl rfl F_X0_15 hk2 (va_up_self _ _ _) (Nat.le_of_ble_eq_true rfl) (Or.inr ⟨rfl, rfl, hI⟩) rfl (by decide) (fun z => ?_) hcl2 (lv_cons (rv hk2) lv_nil) sv_nil ⟨by decide, by decide⟩ (fun ad3 h3 hC3 hcl3 => ?_)
  · rcases List.mem_append.mp z with z | z
    · exact hq2 z
    · exact absurd (List.mem_singleton.mp z) (by omega)
  refine gC_ret hC3 rfl (by simp) (fun j hj => (h3 j (List.mem_append_left _ hj)).trans (h1 j hj)) hcl3 ⟨⟨va_up_self _ _ _, ?_, ?_⟩, fun k k1 k2 k3 => ?_⟩ (by decide) (by decide)
  · rw [va_up_ne _ _ (by omega), va_up_ne _ _ (by omega), va_up_ne _ _ (by omega), va_up_self]; rfl
  · rw [va_up_ne _ _ (by omega), va_up_self]
  · rw [va_up_ne _ _ k1, va_up_ne _ _ k3, va_up_ne _ _ k1, va_up_ne _ _ k2]
end
end
section
section
variable {l : Launch} {D : va_G} {dA ad sa : Nat → Nat} {L : List Nat} {hp : Nat → KE}
theorem c_X3_init (hj : kinj ad L) (hn : L.Nodup) (hk : 54 ∈ L) (hq : ∀ k ∈ L, k < 55 ∨ 65 ≤ k) (hcl : CLO L hp) (hh : hp 54 = kO 3 [.int 0, .int 0, .null, .null, .null, .null, .int 0, .null, .int 0, .null, .null, .null, .null, .null]) : KC l yX3_init cX3_init 1 (rmK 1 10 2386) D dA ad sa L [.ref 54] hp (nks 55 10) (fun hp' => MR hp' 0 0 0 0 (fun _ => 0) (fun _ => 0) (fun _ => 0) (fun _ => 0) (fun _ => 0) (fun _ => 0) (fun _ => 0) (fun _ => 0) (fun _ => 0) (fun _ => 0) ∧ FM hp hp') := by
  refine KC.of rfl ok_X3_init (len_of rfl) hj hn rfl ?_
  intro p e s m args below meth c A hC hN hI
  refine g_run hC 1 rfl ?_
  refine g_obj hC rfl mL_X3_1 ⟨by decide, by decide⟩ ?_
  refine g_run hC 2 rfl ?_
  refine g_mkI (N := 10) (q := 55) (ci := 3) (j := 2) hC rfl rfl F_X3_7 hk hh (by decide) (Or.inl rfl) rfl (by decide) (fun z => by have := hq _ z; omega) hcl (lv_cons (rv hk) lv_nil) sv_nil ⟨by decide, by decide⟩ (fun ad1 a1 hC1 cl1 => ?_)
  have k1 := List.mem_append_left [55] hk
  have hf1 : ∀ k ∈ L ++ [55], ¬ (55 < k ∧ k < 65) := fun k hk9 h9 => by
    rcases List.mem_append.mp hk9 with z | z
    · have := hq _ z; omega
    · have := List.mem_singleton.mp z; omega
  have b1 : ∀ j ∈ L, ad1 j = ad j := a1
  refine g_run hC1 2 rfl ?_
  refine g_mkI (N := 10) (q := 56) (ci := 3) (j := 3) hC1 rfl rfl F_X3_13 k1 (va_up_self _ _ _) (by decide) (Or.inl rfl) rfl (by decide) (fun z => hf1 _ z (by decide)) cl1 (lv_cons (rv k1) lv_nil) sv_nil ⟨by decide, by decide⟩ (fun ad2 a2 hC2 cl2 => ?_)
  have k2 := List.mem_append_left [56] k1
  have hf2 : ∀ k ∈ (L ++ [55]) ++ [56], ¬ (56 < k ∧ k < 65) := fun k hk9 h9 => by
    rcases List.mem_append.mp hk9 with z | z
    · exact hf1 k z (by omega)
    · have := List.mem_singleton.mp z; omega
  have b2 : ∀ j ∈ L, ad2 j = ad j := fun j hj9 => (a2 j (List.mem_append_left _ (hj9))).trans (b1 j hj9)
  refine g_run hC2 2 rfl ?_
  refine g_mkI (N := 10) (q := 57) (ci := 3) (j := 4) hC2 rfl rfl F_X3_16 k2 (va_up_self _ _ _) (by decide) (Or.inl rfl) rfl (by decide) (fun z => hf2 _ z (by decide)) cl2 (lv_cons (rv k2) lv_nil) sv_nil ⟨by decide, by decide⟩ (fun ad3 a3 hC3 cl3 => ?_)
  have k3 := List.mem_append_left [57] k2
  have hf3 : ∀ k ∈ ((L ++ [55]) ++ [56]) ++ [57], ¬ (57 < k ∧ k < 65) := fun k hk9 h9 => by
    rcases List.mem_append.mp hk9 with z | z
    · exact hf2 k z (by omega)
    · have := List.mem_singleton.mp z; omega
  have b3 : ∀ j ∈ L, ad3 j = ad j := fun j hj9 => (a3 j (List.mem_append_left _ (List.mem_append_left _ (hj9)))).trans (b2 j hj9)
  refine g_run hC3 2 rfl ?_
  refine g_mkI (N := 10) (q := 58) (ci := 3) (j := 5) hC3 rfl rfl F_X3_19 k3 (va_up_self _ _ _) (by decide) (Or.inl rfl) rfl (by decide) (fun z => hf3 _ z (by decide)) cl3 (lv_cons (rv k3) lv_nil) sv_nil ⟨by decide, by decide⟩ (fun ad4 a4 hC4 cl4 => ?_)
  have k4 := List.mem_append_left [58] k3
  have hf4 : ∀ k ∈ (((L ++ [55]) ++ [56]) ++ [57]) ++ [58], ¬ (58 < k ∧ k < 65) := fun k hk9 h9 => by
    rcases List.mem_append.mp hk9 with z | z
    · exact hf3 k z (by omega)
    · have := List.mem_singleton.mp z; omega
  have b4 : ∀ j ∈ L, ad4 j = ad j := fun j hj9 => (a4 j (List.mem_append_left _ (List.mem_append_left _ (List.mem_append_left _ (hj9))))).trans (b3 j hj9)
  refine g_run hC4 2 rfl ?_
  refine g_mkJ (N := 512) (q := 59) (ci := 3) (j := 7) hC4 rfl rfl F_X3_22 k4 (va_up_self _ _ _) (by decide) (Or.inl rfl) rfl (by decide) (fun z => hf4 _ z (by decide)) cl4 (lv_cons (rv k4) lv_nil) sv_nil ⟨by decide, by decide⟩ (fun ad5 a5 hC5 cl5 => ?_)
  have k5 := List.mem_append_left [59] k4
  have hf5 : ∀ k ∈ ((((L ++ [55]) ++ [56]) ++ [57]) ++ [58]) ++ [59], ¬ (59 < k ∧ k < 65) := fun k hk9 h9 => by
    rcases List.mem_append.mp hk9 with z | z
    · exact hf4 k z (by omega)
    · have := List.mem_singleton.mp z; omega
  have b5 : ∀ j ∈ L, ad5 j = ad j := fun j hj9 => (a5 j (List.mem_append_left _ (List.mem_append_left _ (List.mem_append_left _ (List.mem_append_left _ (hj9)))))).trans (b4 j hj9)
  refine g_run hC5 2 rfl ?_
  refine g_mkI (N := 10) (q := 60) (ci := 3) (j := 9) hC5 rfl rfl F_X3_26 k5 (va_up_self _ _ _) (by decide) (Or.inl rfl) rfl (by decide) (fun z => hf5 _ z (by decide)) cl5 (lv_cons (rv k5) lv_nil) sv_nil ⟨by decide, by decide⟩ (fun ad6 a6 hC6 cl6 => ?_)
  have k6 := List.mem_append_left [60] k5
  have hf6 : ∀ k ∈ (((((L ++ [55]) ++ [56]) ++ [57]) ++ [58]) ++ [59]) ++ [60], ¬ (60 < k ∧ k < 65) := fun k hk9 h9 => by
    rcases List.mem_append.mp hk9 with z | z
    · exact hf5 k z (by omega)
    · have := List.mem_singleton.mp z; omega
  have b6 : ∀ j ∈ L, ad6 j = ad j := fun j hj9 => (a6 j (List.mem_append_left _ (List.mem_append_left _ (List.mem_append_left _ (List.mem_append_left _ (List.mem_append_left _ (hj9))))))).trans (b5 j hj9)
  refine g_run hC6 2 rfl ?_
  refine g_mkI (N := 400) (q := 61) (ci := 3) (j := 10) hC6 rfl rfl F_X3_29 k6 (va_up_self _ _ _) (by decide) (Or.inl rfl) rfl (by decide) (fun z => hf6 _ z (by decide)) cl6 (lv_cons (rv k6) lv_nil) sv_nil ⟨by decide, by decide⟩ (fun ad7 a7 hC7 cl7 => ?_)
  have k7 := List.mem_append_left [61] k6
  have hf7 : ∀ k ∈ ((((((L ++ [55]) ++ [56]) ++ [57]) ++ [58]) ++ [59]) ++ [60]) ++ [61], ¬ (61 < k ∧ k < 65) := fun k hk9 h9 => by
    rcases List.mem_append.mp hk9 with z | z
    · exact hf6 k z (by omega)
    · have := List.mem_singleton.mp z; omega
  have b7 : ∀ j ∈ L, ad7 j = ad j := fun j hj9 => (a7 j (List.mem_append_left _ (List.mem_append_left _ (List.mem_append_left _ (List.mem_append_left _ (List.mem_append_left _ (List.mem_append_left _ (hj9)))))))).trans (b6 j hj9)
  refine g_run hC7 2 rfl ?_
  refine g_mkJ (N := 400) (q := 62) (ci := 3) (j := 11) hC7 rfl rfl F_X3_32 k7 (va_up_self _ _ _) (by decide) (Or.inl rfl) rfl (by decide) (fun z => hf7 _ z (by decide)) cl7 (lv_cons (rv k7) lv_nil) sv_nil ⟨by decide, by decide⟩ (fun ad8 a8 hC8 cl8 => ?_)
  have k8 := List.mem_append_left [62] k7
  have hf8 : ∀ k ∈ (((((((L ++ [55]) ++ [56]) ++ [57]) ++ [58]) ++ [59]) ++ [60]) ++ [61]) ++ [62], ¬ (62 < k ∧ k < 65) := fun k hk9 h9 => by
    rcases List.mem_append.mp hk9 with z | z
    · exact hf7 k z (by omega)
    · have := List.mem_singleton.mp z; omega
  have b8 : ∀ j ∈ L, ad8 j = ad j := fun j hj9 => (a8 j (List.mem_append_left _ (List.mem_append_left _ (List.mem_append_left _ (List.mem_append_left _ (List.mem_append_left _ (List.mem_append_left _ (List.mem_append_left _ (hj9))))))))).trans (b7 j hj9)
  refine g_run hC8 2 rfl ?_
  refine g_mkJ (N := 512) (q := 63) (ci := 3) (j := 12) hC8 rfl rfl F_X3_35 k8 (va_up_self _ _ _) (by decide) (Or.inl rfl) rfl (by decide) (fun z => hf8 _ z (by decide)) cl8 (lv_cons (rv k8) lv_nil) sv_nil ⟨by decide, by decide⟩ (fun ad9 a9 hC9 cl9 => ?_)
  have k9 := List.mem_append_left [63] k8
  have hf9 : ∀ k ∈ ((((((((L ++ [55]) ++ [56]) ++ [57]) ++ [58]) ++ [59]) ++ [60]) ++ [61]) ++ [62]) ++ [63], ¬ (63 < k ∧ k < 65) := fun k hk9 h9 => by
    rcases List.mem_append.mp hk9 with z | z
    · exact hf8 k z (by omega)
    · have := List.mem_singleton.mp z; omega
  have b9 : ∀ j ∈ L, ad9 j = ad j := fun j hj9 => (a9 j (List.mem_append_left _ (List.mem_append_left _ (List.mem_append_left _ (List.mem_append_left _ (List.mem_append_left _ (List.mem_append_left _ (List.mem_append_left _ (List.mem_append_left _ (hj9)))))))))).trans (b8 j hj9)
  refine g_run hC9 2 rfl ?_
  refine g_mkJ (N := 512) (q := 64) (ci := 3) (j := 13) hC9 rfl rfl F_X3_38 k9 (va_up_self _ _ _) (by decide) (Or.inl rfl) rfl (by decide) (fun z => hf9 _ z (by decide)) cl9 (lv_cons (rv k9) lv_nil) sv_nil ⟨by decide, by decide⟩ (fun ad10 a10 hC10 cl10 => ?_)
  have k10 := List.mem_append_left [64] k9
  have hf10 : ∀ k ∈ (((((((((L ++ [55]) ++ [56]) ++ [57]) ++ [58]) ++ [59]) ++ [60]) ++ [61]) ++ [62]) ++ [63]) ++ [64], ¬ (64 < k ∧ k < 65) := fun k hk9 h9 => by
    rcases List.mem_append.mp hk9 with z | z
    · exact hf9 k z (by omega)
    · have := List.mem_singleton.mp z; omega
  have b10 : ∀ j ∈ L, ad10 j = ad j := fun j hj9 => (a10 j (List.mem_append_left _ (List.mem_append_left _ (List.mem_append_left _ (List.mem_append_left _ (List.mem_append_left _ (List.mem_append_left _ (List.mem_append_left _ (List.mem_append_left _ (List.mem_append_left _ (hj9))))))))))).trans (b9 j hj9)
  refine gC_ret hC10 rfl (by simp [nks]) b10 cl10 ⟨⟨rfl, rfl, rfl, rfl, rfl, rfl, rfl, rfl, rfl, rfl, rfl⟩, fun k hk9 => ?_⟩ (by decide) (by decide)
  rw [va_up_ne _ _ (by omega), va_up_ne _ _ (by omega), va_up_ne _ _ (by omega), va_up_ne _ _ (by omega), va_up_ne _ _ (by omega), va_up_ne _ _ (by omega), va_up_ne _ _ (by omega), va_up_ne _ _ (by omega), va_up_ne _ _ (by omega), va_up_ne _ _ (by omega), va_up_ne _ _ (by omega), va_up_ne _ _ (by omega), va_up_ne _ _ (by omega), va_up_ne _ _ (by omega), va_up_ne _ _ (by omega), va_up_ne _ _ (by omega), va_up_ne _ _ (by omega), va_up_ne _ _ (by omega), va_up_ne _ _ (by omega), va_up_ne _ _ (by omega)]
end
end
section
theorem NEW_X1 : NEW RX2 15 1 [.null, .int 0] := ⟨rfl, kL_X2_15, iT_X1, iN_X1, uw_1, tyX1_ok, fun j hj => by
  match j, hj with
  | 0, _ => rfl
  | 1, _ => rfl, fun v hv k e => by
  subst e
  rcases List.mem_cons.mp hv with h | hv
  · cases h
  rcases List.mem_cons.mp hv with h | hv
  · cases h
  cases hv⟩
theorem NEW_X0 : NEW RX2 9 0 [.int 0, .int 0, .int 0, .int 0, .null, .null] := ⟨rfl, kL_X2_9, iT_X0, iN_X0, uw_0, tyX0_ok, fun j hj => by
  match j, hj with
  | 0, _ => rfl
  | 1, _ => rfl
  | 2, _ => rfl
  | 3, _ => rfl
  | 4, _ => rfl
  | 5, _ => rfl, fun v hv k e => by
  subst e
  simp at hv⟩
theorem MIK_X1 : MIK yX1_init cX1_init 1 := ⟨⟨yI_X1_init, iN_X1, cd_X1_init⟩, rfl, by decide, by decide, by decide +kernel⟩
theorem MIK_X0 : MIK yX0_init cX0_init 1 := ⟨⟨yI_X0_init, iN_X0, cd_X0_init⟩, rfl, by decide, by decide, by decide +kernel⟩
section
variable {p : Program} {l : Launch} {e : Env} {R : Room} {s : State} {m : MethodId} {args : Array Value} {below : List Frame} {meth : Method} {c : Code} {D : va_G} {dA ad sa : Nat → Nat} {L : List Nat} {A : Nat → Prop} {nL cells slots : Nat} {Q : State → Prop} {hp : Nat → KE} {cc : ByteArray} {ret : Option FieldType} {tb : List (Nat × Instr × Nat)}
/-- new Polynomial() -/
theorem g_mkP (hC : CX p s m args meth c RX2 cc nL ret tb D dA ad L A) (hN : NW A sa s s.heap) {pc n2 n3 nx k n b : Nat} {L0 : List Nat} (hf : fd tb pc = some (.new 15, n2)) (hf2 : fd tb n2 = some (.dup, n3)) (hf3 : fd tb n3 = some (.invokespecial 17, nx)) (hL : L = L0 ++ nks b n) (hk9 : k = b + n) (h0 : ∀ j ∈ L0, j < k ∨ k + 2 ≤ j) (hcl : CLO L hp) {lv : List (Nat × Value)} {st : List Value} (hlv : ∀ w ∈ lv, rfV L w.2) (hst : ∀ v ∈ st, rfV L v) (hR : 2 ≤ R.frames ∧ 8 + (1 + 11) + 40 ≤ R.locals) (hw : (st.map fun v => v.category).sum ≤ 7) (hfc : cells + 2 ≤ R.cells ∧ slots + 514 ≤ R.slots)
    (kk : ∀ ad2 : Nat → Nat, (∀ j ∈ L, ad2 j = ad j) → CX p s m args meth c RX2 cc nL ret tb D dA ad2 (L0 ++ nks b (n + 2)) A → CLO (L0 ++ nks b (n + 2)) (setP hp k (fun _ => 0)) → G p l e R s m args below meth c D dA ad2 (L0 ++ nks b (n + 2)) A nL (cells + 2) (slots + 514) Q (setP hp k (fun _ => 0)) nx lv (.ref k :: st)) : G p l e R s m args below meth c D dA ad L A nL cells slots Q hp pc lv st := by
  subst hL
  subst hk9
  have hnd := hC.2.2.2.2.2.2.1
  have f1 : ∀ j, j ∈ L0 ++ nks b n → j < b + n ∨ b + n + 2 ≤ j := fun j hj => by
    rcases List.mem_append.mp hj with z | z
    · exact h0 j z
    · exact Or.inl (nks_mem z).2
  refine g_new (k := b + n) hC hf NEW_X1 (fun z => by have := f1 _ z; omega) hcl hlv hst ⟨by omega, by show slots + 2 ≤ _; omega⟩ (fun ad2 h1 hC2 hcl2 => ?_)
  have hk2 : b + n ∈ (L0 ++ nks b n) ++ [b + n] := List.mem_append_right _ (List.mem_singleton.mpr rfl)
  have hs2 : ∀ j ∈ L0 ++ nks b n, j ∈ (L0 ++ nks b n) ++ [b + n] := fun j hj => List.mem_append_left _ hj
  refine g_st1 hC2 hf2 rfl ?_
  have fq : ¬ b + n + 1 ∈ (L0 ++ nks b n) ++ [b + n] := fun z => by
    rcases List.mem_append.mp z with z | z
    · have := f1 _ z; omega
    · have := List.mem_singleton.mp z; omega
  have hnd2 : (((L0 ++ nks b n) ++ [b + n]) ++ [b + n + 1]).Nodup := List.nodup_append.mpr ⟨hC2.2.2.2.2.2.2.1, List.nodup_cons.mpr ⟨List.not_mem_nil, List.nodup_nil⟩, fun a ha b9 hb z => fq (by rw [List.mem_singleton.mp hb] at z; rw [← z]; exact ha)⟩
  refine g_initN (maxL2 := 1) (rm2 := rmK 1 1 512) hC2 hN (c_X1_init hC2.2.2.2.2.2.1 hC2.2.2.2.2.2.2.1 hk2 fq hcl2 (va_up_self _ _ _)) hf3 (by decide) MIK_X1 hnd2 (fun w hw9 => (hlv w hw9).mono hs2) (sv_cons (rv hk2) (fun v hv => (hst v hv).mono hs2)) (by rw [List.map_cons, List.sum_cons]; show 1 + _ ≤ 8; omega) ⟨hR.1, hR.2⟩ ⟨by show cells + 1 + 1 ≤ _; omega, by show slots + 2 + 512 ≤ _; omega⟩ (fun ad3 hp3 h3 hC3 hcl3 e3 => ?_)
  have eL : ((L0 ++ nks b n) ++ [b + n]) ++ [b + n + 1] = L0 ++ nks b (n + 2) := by rw [← nks2, List.append_assoc]; rfl
  have eH : setP (va_up hp (b + n) (kO 1 [.null, .int 0])) (b + n) (fun _ => 0) = setP hp (b + n) (fun _ => 0) := by
    funext j
    by_cases z1 : j = b + n
    · subst z1; rw [(setP_at _ _ _).1, (setP_at _ _ _).1]
    · by_cases z2 : j = b + n + 1
      · subst z2; rw [(setP_at _ _ _).2, (setP_at _ _ _).2]
      · rw [setP_ne z1 z2, setP_ne z1 z2, va_up_ne _ _ z1]
  rw [e3, eH] at hcl3
  rw [e3, eH]
  rw [eL] at hC3 hcl3 ⊢
  exact kk ad3 (fun j hj => (h3 j (hs2 j hj)).trans (h1 j hj)) hC3 hcl3
/-- new Gate() -/
theorem g_mkG (hC : CX p s m args meth c RX2 cc nL ret tb D dA ad L A) (hN : NW A sa s s.heap) {pc n2 n3 nx k n b : Nat} {L0 : List Nat} (hf : fd tb pc = some (.new 9, n2)) (hf2 : fd tb n2 = some (.dup, n3)) (hf3 : fd tb n3 = some (.invokespecial 29, nx)) (hL : L = L0 ++ nks b n) (hk9 : k = b + n) (h0 : ∀ j ∈ L0, j < k ∨ k + 3 ≤ j) (hcl : CLO L hp) {lv : List (Nat × Value)} {st : List Value} (hlv : ∀ w ∈ lv, rfV L w.2) (hst : ∀ v ∈ st, rfV L v) (hR : 2 ≤ R.frames ∧ 8 + (1 + 11) + 40 ≤ R.locals) (hw : (st.map fun v => v.category).sum ≤ 7) (hfc : cells + 3 ≤ R.cells ∧ slots + 22 ≤ R.slots)
    (kk : ∀ (ad2 : Nat → Nat) (hp2 : Nat → KE), (∀ j ∈ L, ad2 j = ad j) → CX p s m args meth c RX2 cc nL ret tb D dA ad2 (L0 ++ nks b (n + 3)) A → CLO (L0 ++ nks b (n + 3)) hp2 → GateAt hp2 k 0 0 0 0 (fun _ => 0) (fun _ => 0) → (∀ j, j ≠ k → j ≠ k + 1 → j ≠ k + 2 → hp2 j = hp j) → G p l e R s m args below meth c D dA ad2 (L0 ++ nks b (n + 3)) A nL (cells + 3) (slots + 22) Q hp2 nx lv (.ref k :: st)) : G p l e R s m args below meth c D dA ad L A nL cells slots Q hp pc lv st := by
  subst hL
  subst hk9
  have hnd := hC.2.2.2.2.2.2.1
  have f1 : ∀ j, j ∈ L0 ++ nks b n → j < b + n ∨ b + n + 3 ≤ j := fun j hj => by
    rcases List.mem_append.mp hj with z | z
    · exact h0 j z
    · exact Or.inl (nks_mem z).2
  refine g_new (k := b + n) hC hf NEW_X0 (fun z => by have := f1 _ z; omega) hcl hlv hst ⟨by omega, by show slots + 6 ≤ _; omega⟩ (fun ad2 h1 hC2 hcl2 => ?_)
  have hk2 : b + n ∈ (L0 ++ nks b n) ++ [b + n] := List.mem_append_right _ (List.mem_singleton.mpr rfl)
  have hs2 : ∀ j ∈ L0 ++ nks b n, j ∈ (L0 ++ nks b n) ++ [b + n] := fun j hj => List.mem_append_left _ hj
  refine g_st1 hC2 hf2 rfl ?_
  have fq : ∀ j, (j = b + n + 1 ∨ j = b + n + 2) → ¬ j ∈ (L0 ++ nks b n) ++ [b + n] := fun j hj z => by
    rcases List.mem_append.mp z with z | z
    · have := f1 _ z; omega
    · have := List.mem_singleton.mp z; omega
  have eL : ((L0 ++ nks b n) ++ [b + n]) ++ [b + n + 1, b + n + 2] = L0 ++ nks b (n + 3) := by
    show _ = L0 ++ (((nks b n ++ [b + n]) ++ [b + (n + 1)]) ++ [b + (n + 2)])
    simp [Nat.add_assoc]
  have hnd2 : (((L0 ++ nks b n) ++ [b + n]) ++ [b + n + 1, b + n + 2]).Nodup := List.nodup_append.mpr ⟨hC2.2.2.2.2.2.2.1, List.nodup_cons.mpr ⟨fun z => by have := List.mem_singleton.mp z; omega, List.nodup_cons.mpr ⟨List.not_mem_nil, List.nodup_nil⟩⟩, fun a ha b9 hb z => by
    subst z
    rcases List.mem_cons.mp hb with z | hb
    · exact fq a (Or.inl z) ha
    · exact fq a (Or.inr (List.mem_singleton.mp hb)) ha⟩
  refine g_initN (maxL2 := 1) (rm2 := rmK 1 2 16) hC2 hN (c_X0_init hC2.2.2.2.2.2.1 hC2.2.2.2.2.2.2.1 hk2 (fq _ (Or.inl rfl)) (fq _ (Or.inr rfl)) hcl2 (va_up_self _ _ _)) hf3 (by decide) MIK_X0 hnd2 (fun w hw9 => (hlv w hw9).mono hs2) (sv_cons (rv hk2) (fun v hv => (hst v hv).mono hs2)) (by rw [List.map_cons, List.sum_cons]; show 1 + _ ≤ 8; omega) ⟨hR.1, hR.2⟩ ⟨by show cells + 1 + 2 ≤ _; omega, by show slots + 6 + 16 ≤ _; omega⟩ (fun ad3 hp3 h3 hC3 hcl3 e3 => ?_)
  rw [eL] at hC3 hcl3 ⊢
  exact kk ad3 hp3 (fun j hj => (h3 j (hs2 j hj)).trans (h1 j hj)) hC3 hcl3 e3.1 (fun j j1 j2 j3 => (e3.2 j j1 j2 j3).trans (va_up_ne _ _ j1))
end
end
section
def qf (a b i : Nat) : Nat → Option Nat := fun t => if t < i then some (a + b * t) else none
theorem qf_zero (a b : Nat) : qf a b 0 = fun _ => none := funext fun t => if_neg (Nat.not_lt_zero t)
theorem qf_up (a b i : Nat) : va_up (qf a b i) i (some (a + b * i)) = qf a b (i + 1) := by
  funext t
  unfold qf
  by_cases z : t = i
  · subst z; rw [va_up_self, if_pos (Nat.lt_succ_self _)]
  · rw [va_up_ne _ _ z]
    by_cases h : t < i
    · rw [if_pos h, if_pos (by omega)]
    · rw [if_neg h, if_neg (by omega)]
theorem CLO.q {L : List Nat} {hp : Nat → KE} {k t n j v : Nat} {f : Nat → Option Nat} (h : CLO L hp) (hk : k ∈ L) (hh : hp k = kQ t n f) (hv : v ∈ L) : CLO L (va_up hp k (kQ t n (va_up f j (some v)))) := by
  have h1 := h k hk
  rw [hh] at h1
  refine h.up (fun j2 k2 e => ?_)
  by_cases z : j2 = j
  · subst z; rw [va_up_self] at e; cases e; exact hv
  · rw [va_up_ne _ _ z] at e; exact h1 j2 k2 e
/-- the component's objects, i gates and j lines of them made -/
def X2at (hp : Nat → KE) (i j : Nat) : Prop := hp 0 = XObj 0 0 0 0 ∧ hp 1 = kQ 2 9 (qf 7 3 i) ∧ hp 4 = kQ 3 10 (qf 34 2 j) ∧ PolyAt hp 2 (fun _ => 0) ∧ PolyAt hp 5 (fun _ => 0) ∧ (∀ t, t < j → PolyAt hp (34 + 2 * t) (fun _ => 0)) ∧ (∀ t, t < i → GateAt hp (7 + 3 * t) 0 0 0 0 (fun _ => 0) (fun _ => 0))
theorem X2at.gate {hp hp2 : Nat → KE} {i : Nat} (h : X2at hp i 0) (hi : i < 9) (hg : GateAt hp2 (7 + 3 * i) 0 0 0 0 (fun _ => 0) (fun _ => 0)) (hn : ∀ j, j ≠ 7 + 3 * i → j ≠ 7 + 3 * i + 1 → j ≠ 7 + 3 * i + 2 → hp2 j = hp j) : X2at (va_up hp2 1 (kQ 2 9 (qf 7 3 (i + 1)))) (i + 1) 0 := by
  have e : ∀ j, j ≠ 1 → j ≠ 7 + 3 * i → j ≠ 7 + 3 * i + 1 → j ≠ 7 + 3 * i + 2 → va_up hp2 1 (kQ 2 9 (qf 7 3 (i + 1))) j = hp j := fun j j0 j1 j2 j3 => (va_up_ne _ _ j0).trans (hn j j1 j2 j3)
  obtain ⟨h1, h2, h3, h4, h5, h6, h7⟩ := h
  refine ⟨(e _ (by omega) (by omega) (by omega) (by omega)).trans h1, va_up_self _ _ _, (e _ (by omega) (by omega) (by omega) (by omega)).trans h3, ⟨(e _ (by omega) (by omega) (by omega) (by omega)).trans h4.1, (e _ (by omega) (by omega) (by omega) (by omega)).trans h4.2⟩, ⟨(e _ (by omega) (by omega) (by omega) (by omega)).trans h5.1, (e _ (by omega) (by omega) (by omega) (by omega)).trans h5.2⟩, fun t ht => absurd ht (Nat.not_lt_zero t), fun t ht => ?_⟩
  by_cases z : t = i
  · subst z
    exact ⟨(va_up_ne _ _ (by omega)).trans hg.1, (va_up_ne _ _ (by omega)).trans hg.2.1, (va_up_ne _ _ (by omega)).trans hg.2.2⟩
  · have h9 := h7 t (by omega)
    exact ⟨(e _ (by omega) (by omega) (by omega) (by omega)).trans h9.1, (e _ (by omega) (by omega) (by omega) (by omega)).trans h9.2.1, (e _ (by omega) (by omega) (by omega) (by omega)).trans h9.2.2⟩
theorem X2at.line {hp : Nat → KE} {i : Nat} (h : X2at hp 9 i) (hi : i < 10) : X2at (va_up (setP hp (34 + 2 * i) (fun _ => 0)) 4 (kQ 3 10 (qf 34 2 (i + 1)))) 9 (i + 1) := by
  have e : ∀ j, j ≠ 4 → j ≠ 34 + 2 * i → j ≠ 34 + 2 * i + 1 → va_up (setP hp (34 + 2 * i) (fun _ => 0)) 4 (kQ 3 10 (qf 34 2 (i + 1))) j = hp j := fun j j0 j1 j2 => (va_up_ne _ _ j0).trans (setP_ne j1 j2)
  obtain ⟨h1, h2, h3, h4, h5, h6, h7⟩ := h
  refine ⟨(e _ (by omega) (by omega) (by omega)).trans h1, (e _ (by omega) (by omega) (by omega)).trans h2, va_up_self _ _ _, ⟨(e _ (by omega) (by omega) (by omega)).trans h4.1, (e _ (by omega) (by omega) (by omega)).trans h4.2⟩, ⟨(e _ (by omega) (by omega) (by omega)).trans h5.1, (e _ (by omega) (by omega) (by omega)).trans h5.2⟩, fun t ht => ?_, fun t ht => ?_⟩
  · by_cases z : t = i
    · subst z
      have h9 := setP_at hp (34 + 2 * t) (fun _ => 0)
      exact ⟨(va_up_ne _ _ (by omega)).trans h9.1, (va_up_ne _ _ (by omega)).trans h9.2⟩
    · have h9 := h6 t (by omega)
      exact ⟨(e _ (by omega) (by omega) (by omega)).trans h9.1, (e _ (by omega) (by omega) (by omega)).trans h9.2⟩
  · have h9 := h7 t (by omega)
    exact ⟨(e _ (by omega) (by omega) (by omega)).trans h9.1, (e _ (by omega) (by omega) (by omega)).trans h9.2.1, (e _ (by omega) (by omega) (by omega)).trans h9.2.2⟩
section
variable {l : Launch} {D : va_G} {dA ad sa : Nat → Nat} {L : List Nat} {hp : Nat → KE}
set_option maxHeartbeats 4000000 in
theorem c_X2_init (hj : kinj ad L) (hn : L.Nodup) (hk : 0 ∈ L) (hq : ∀ k ∈ L, k < 1 ∨ 54 ≤ k) (hcl : CLO L hp) (hh : hp 0 = kO 2 [.null, .int 0, .int 0, .null, .int 0, .null, .int 0, .null]) : KC l yX2_init cX2_init 2 (rmK 2 53 6385) D dA ad sa L [.ref 0] hp (nks 1 53) (fun hp' => X2at hp' 9 10 ∧ ∀ k, 54 ≤ k → hp' k = hp k) := by
  refine KC.of rfl ok_X2_init (len_of rfl) hj hn rfl ?_
  intro p e s m args below meth c A hC hN hI
  refine g_run hC 1 rfl ?_
  refine g_obj hC rfl mL_X2_1 ⟨by decide, by decide⟩ ?_
  refine g_run hC 2 rfl ?_
  refine g_newaQ (N := 9) (k := 1) hC hN rfl kL_X2_9 aO_0 (t := 2) rfl (by decide) (fun z => by have := hq _ z; omega) hcl (lv_cons (rv hk) lv_nil) (sv_cons (rv hk) sv_nil) ⟨by decide, by decide⟩ (fun ad1 a1 hC1 cl1 => ?_)
  have k1 := List.mem_append_left [1] hk
  refine g_putA hC1 rfl F_X2_11 k1 ((va_up_ne _ _ (by decide)).trans hh) (by decide) (Or.inr ⟨rfl, rfl, hI⟩) rfl rfl ?_
  have cl1b := cl1.put (j := 0) k1 ((va_up_ne _ _ (by decide)).trans hh) (rv (List.mem_append_right L (List.mem_singleton.mpr rfl)))
  refine g_run hC1 1 rfl ?_
  refine g_mkP (L0 := L) (b := 1) (n := 1) (k := 2) hC1 hN rfl rfl rfl rfl rfl (fun j hj => by have := hq _ hj; omega) cl1b (lv_cons (rv k1) lv_nil) (sv_cons (rv k1) sv_nil) ⟨by decide, by decide⟩ (by decide) ⟨by decide, by decide⟩ (fun ad2 a2 hC2 cl2 => ?_)
  have k2 : 0 ∈ L ++ nks 1 3 := List.mem_append_left _ hk
  have o2 : setP (va_up (va_up hp 1 (kQ 2 9 (fun _ => none))) 0 (kO 2 [.ref 1, .int 0, .int 0, .null, .int 0, .null, .int 0, .null])) 2 (fun _ => 0) 0 = kO 2 [.ref 1, .int 0, .int 0, .null, .int 0, .null, .int 0, .null] := (setP_ne (by decide) (by decide)).trans (va_up_self _ _ _)
  refine g_putA hC2 rfl F_X2_18 k2 o2 (by decide) (Or.inr ⟨rfl, rfl, hI⟩) rfl rfl ?_
  have cl2b := cl2.put (j := 3) k2 o2 (rv (List.mem_append_right L (nks_of (k := 2) (s := 1) (n := 3) (by decide) (by decide))))
  refine g_run hC2 2 rfl ?_
  refine g_newaQ (N := 10) (k := 4) hC2 hN rfl kL_X2_15 aO_1 (t := 3) rfl (by decide) (fun z => by
    rcases List.mem_append.mp z with z | z
    · have := hq _ z; omega
    · have := nks_mem z; omega) cl2b (lv_cons (rv k2) lv_nil) (sv_cons (rv k2) sv_nil) ⟨by decide, by decide⟩ (fun ad3 a3 hC3 cl3 => ?_)
  have k3 := List.mem_append_left [4] k2
  refine g_putA hC3 rfl F_X2_22 k3 ((va_up_ne _ _ (by decide)).trans (va_up_self _ _ _)) (by decide) (Or.inr ⟨rfl, rfl, hI⟩) rfl rfl ?_
  have cl3b := cl3.put (j := 5) k3 ((va_up_ne _ _ (by decide)).trans (va_up_self _ _ _)) (rv (List.mem_append_right (L ++ nks 1 3) (List.mem_singleton.mpr rfl)))
  refine g_run hC3 1 rfl ?_
  refine g_mkP (L0 := L) (b := 1) (n := 4) (k := 5) hC3 hN rfl rfl rfl (nks1 L 1 3) rfl (fun j hj => by have := hq _ hj; omega) cl3b (lv_cons (rv k3) lv_nil) (sv_cons (rv k3) sv_nil) ⟨by decide, by decide⟩ (by decide) ⟨by decide, by decide⟩ (fun ad4 a4 hC4 cl4 => ?_)
  have k4 : 0 ∈ L ++ nks 1 6 := List.mem_append_left _ hk
  refine g_putA hC4 rfl F_X2_26 k4 ((setP_ne (by decide) (by decide)).trans (va_up_self _ _ _)) (by decide) (Or.inr ⟨rfl, rfl, hI⟩) rfl rfl ?_
  have cl4b := cl4.put (j := 7) k4 ((setP_ne (by decide) (by decide)).trans (va_up_self _ _ _)) (rv (List.mem_append_right L (nks_of (k := 5) (s := 1) (n := 6) (by decide) (by decide))))
  have b4 : ∀ j ∈ L, ad4 j = ad j := fun j hj => (a4 j (List.mem_append_left _ (List.mem_append_left _ hj))).trans ((a3 j (List.mem_append_left _ hj)).trans ((a2 j (List.mem_append_left _ hj)).trans (a1 j hj)))
  refine g_run hC4 2 rfl ?_
  have lines : ∀ n i N cN sN, i + n = 10 → N = 33 + 2 * i → cN = 33 + 2 * i → sN = 1245 + 514 * i → ∀ (ad9 : Nat → Nat) (hp9 : Nat → KE), (∀ j ∈ L, ad9 j = ad j) → CX p s m args meth c RX2 cX2_init 2 none tb_X2_init D dA ad9 (L ++ nks 1 N) A → CLO (L ++ nks 1 N) hp9 → X2at hp9 9 i → (∀ k, 54 ≤ k → hp9 k = hp k) → G p l e (rmK 2 53 6385) s m args below meth c D dA ad9 (L ++ nks 1 N) A 2 cN sN (MQ below (kC D dA ad L A (nks 1 53) (fun hp' => X2at hp' 9 10 ∧ ∀ k, 54 ≤ k → hp' k = hp k)) args s 53 6385 A) hp9 76 [(1, .int (nI i)), (0, .ref 0)] [] := by
    intro n
    induction n with
    | zero =>
      intro i N cN sN hi hN9 hc9 hs9 ad9 hp9 b9 hC9 cl9 x9 f9
      obtain rfl : i = 10 := by omega
      obtain rfl : N = 53 := by omega
      have k9 : 0 ∈ L ++ nks 1 53 := List.mem_append_left _ hk
      refine g_run hC9 2 rfl ?_
      refine g_get hC9 rfl F_X2_22 k9 x9.1 rfl ?_
      refine g_alen (t := 3) (ty := .object RX1) hC9 rfl (List.mem_append_right _ (nks_of (by decide) (by decide))) x9.2.2.1 rfl ?_
      refine g_icge (tgt := 104) hC9 rfl (by decide) (fun _ => ?_) (fun h => ?_)
      · exact gC_ret hC9 rfl rfl b9 cl9 ⟨x9, f9⟩ (by omega) (by omega)
      · exact absurd ((nI_leI (a := 10) (b := 10) (by decide) (by decide)).mpr (Nat.le_refl _)) h
    | succ n ih =>
      intro i N cN sN hi hN9 hc9 hs9 ad9 hp9 b9 hC9 cl9 x9 f9
      have k9 : 0 ∈ L ++ nks 1 N := List.mem_append_left _ hk
      have k94 : 4 ∈ L ++ nks 1 N := List.mem_append_right _ (nks_of (by decide) (by omega))
      refine g_run hC9 2 rfl ?_
      refine g_get hC9 rfl F_X2_22 k9 x9.1 rfl ?_
      refine g_alen (t := 3) (ty := .object RX1) hC9 rfl k94 x9.2.2.1 rfl ?_
      refine g_icge (tgt := 104) hC9 rfl (by decide) (fun h => ?_) (fun _ => ?_)
      · exact absurd ((nI_leI (a := 10) (b := i) (by decide) (by omega)).mp h) (by omega)
      refine g_run hC9 1 rfl ?_
      refine g_get hC9 rfl F_X2_22 k9 x9.1 rfl ?_
      refine g_run hC9 1 rfl ?_
      refine g_mkP (L0 := L) (b := 1) (n := N) (k := 34 + 2 * i) hC9 hN rfl rfl rfl rfl (by omega) (fun j hj => by have := hq _ hj; omega) cl9 (lv_cons ri (lv_cons (rv k9) lv_nil)) (sv_cons ri (sv_cons (rv k94) sv_nil)) ⟨by decide, by decide⟩ (Nat.le_of_ble_eq_true rfl) ⟨by show cN + 2 ≤ 53; omega, by show sN + 514 ≤ 6385; omega⟩ (fun ad10 a10 hC10 cl10 => ?_)
      have kv : 34 + 2 * i ∈ L ++ nks 1 (N + 2) := List.mem_append_right _ (nks_of (by omega) (by omega))
      have k104 : 4 ∈ L ++ nks 1 (N + 2) := List.mem_append_right _ (nks_of (by decide) (by omega))
      have e4 : setP hp9 (34 + 2 * i) (fun _ => 0) 4 = kQ 3 10 (qf 34 2 i) := (setP_ne (by omega) (by omega)).trans x9.2.2.1
      refine g_ast (ci := 1) hC10 i rfl k104 e4 rfl kv (setP_at _ _ _).1 rfl rfl (by omega) (by decide) ?_
      have cl11 := cl10.q (j := i) k104 e4 kv
      rw [qf_up] at cl11 ⊢
      refine g_run hC10 2 rfl ?_
      refine g_lvs (lv' := [(1, .int (nI (i + 1))), (0, .ref 0)]) (ih (i + 1) (N + 2) (cN + 2) (sN + 514) (by omega) (by omega) (by omega) (by omega) ad10 _ (fun j hj => (a10 j (List.mem_append_left _ hj)).trans (b9 j hj)) hC10 cl11 (x9.line (by omega)) (fun k hk9 => ?_)) ⟨sI (nI_s i), rfl, trivial⟩
      rw [va_up_ne _ _ (by omega), setP_ne (by omega) (by omega)]
      exact f9 k hk9
  have gates : ∀ n i N cN sN, i + n = 9 → N = 6 + 3 * i → cN = 6 + 3 * i → sN = 1047 + 22 * i → ∀ (ad9 : Nat → Nat) (hp9 : Nat → KE), (∀ j ∈ L, ad9 j = ad j) → CX p s m args meth c RX2 cX2_init 2 none tb_X2_init D dA ad9 (L ++ nks 1 N) A → CLO (L ++ nks 1 N) hp9 → X2at hp9 i 0 → (∀ k, 54 ≤ k → hp9 k = hp k) → G p l e (rmK 2 53 6385) s m args below meth c D dA ad9 (L ++ nks 1 N) A 2 cN sN (MQ below (kC D dA ad L A (nks 1 53) (fun hp' => X2at hp' 9 10 ∧ ∀ k, 54 ≤ k → hp' k = hp k)) args s 53 6385 A) hp9 46 [(1, .int (nI i)), (0, .ref 0)] [] := by
    intro n
    induction n with
    | zero =>
      intro i N cN sN hi hN9 hc9 hs9 ad9 hp9 b9 hC9 cl9 x9 f9
      obtain rfl : i = 9 := by omega
      have k9 : 0 ∈ L ++ nks 1 N := List.mem_append_left _ hk
      refine g_run hC9 2 rfl ?_
      refine g_get hC9 rfl F_X2_11 k9 x9.1 rfl ?_
      refine g_alen (t := 2) (ty := .object RX0) hC9 rfl (List.mem_append_right _ (nks_of (by decide) (by omega))) x9.2.1 rfl ?_
      refine g_icge (tgt := 74) hC9 rfl (by decide) (fun _ => ?_) (fun h => ?_)
      · refine g_run hC9 2 rfl ?_
        exact lines 10 0 N cN sN rfl (by omega) (by omega) (by omega) ad9 hp9 b9 hC9 cl9 x9 f9
      · exact absurd ((nI_leI (a := 9) (b := 9) (by decide) (by decide)).mpr (Nat.le_refl _)) h
    | succ n ih =>
      intro i N cN sN hi hN9 hc9 hs9 ad9 hp9 b9 hC9 cl9 x9 f9
      have k9 : 0 ∈ L ++ nks 1 N := List.mem_append_left _ hk
      have k91 : 1 ∈ L ++ nks 1 N := List.mem_append_right _ (nks_of (by decide) (by omega))
      refine g_run hC9 2 rfl ?_
      refine g_get hC9 rfl F_X2_11 k9 x9.1 rfl ?_
      refine g_alen (t := 2) (ty := .object RX0) hC9 rfl k91 x9.2.1 rfl ?_
      refine g_icge (tgt := 74) hC9 rfl (by decide) (fun h => ?_) (fun _ => ?_)
      · exact absurd ((nI_leI (a := 9) (b := i) (by decide) (by omega)).mp h) (by omega)
      refine g_run hC9 1 rfl ?_
      refine g_get hC9 rfl F_X2_11 k9 x9.1 rfl ?_
      refine g_run hC9 1 rfl ?_
      refine g_mkG (L0 := L) (b := 1) (n := N) (k := 7 + 3 * i) hC9 hN rfl rfl rfl rfl (by omega) (fun j hj => by have := hq _ hj; omega) cl9 (lv_cons ri (lv_cons (rv k9) lv_nil)) (sv_cons ri (sv_cons (rv k91) sv_nil)) ⟨by decide, by decide⟩ (Nat.le_of_ble_eq_true rfl) ⟨by show cN + 3 ≤ 53; omega, by show sN + 22 ≤ 6385; omega⟩ (fun ad10 hp10 a10 hC10 cl10 g10 n10 => ?_)
      have kv : 7 + 3 * i ∈ L ++ nks 1 (N + 3) := List.mem_append_right _ (nks_of (by omega) (by omega))
      have k101 : 1 ∈ L ++ nks 1 (N + 3) := List.mem_append_right _ (nks_of (by decide) (by omega))
      have e1 : hp10 1 = kQ 2 9 (qf 7 3 i) := (n10 1 (by omega) (by omega) (by omega)).trans x9.2.1
      refine g_ast (ci := 0) hC10 i rfl k101 e1 rfl kv g10.1 rfl rfl (by omega) (by decide) ?_
      have cl11 := cl10.q (j := i) k101 e1 kv
      rw [qf_up] at cl11 ⊢
      refine g_run hC10 2 rfl ?_
      refine g_lvs (lv' := [(1, .int (nI (i + 1))), (0, .ref 0)]) (ih (i + 1) (N + 3) (cN + 3) (sN + 22) (by omega) (by omega) (by omega) (by omega) ad10 _ (fun j hj => (a10 j (List.mem_append_left _ hj)).trans (b9 j hj)) hC10 cl11 (x9.gate (by omega) g10 n10) (fun k hk9 => ?_)) ⟨sI (nI_s i), rfl, trivial⟩
      rw [va_up_ne _ _ (by omega), n10 k (by omega) (by omega) (by omega)]
      exact f9 k hk9
  refine gates 9 0 6 _ _ rfl rfl rfl rfl ad4 _ b4 hC4 cl4b ?_ (fun k hk9 => ?_)
  · refine ⟨rfl, ?_, ?_, ⟨rfl, rfl⟩, ⟨rfl, rfl⟩, fun t ht => absurd ht (Nat.not_lt_zero t), fun t ht => absurd ht (Nat.not_lt_zero t)⟩
    · rw [qf_zero]; rfl
    · rw [qf_zero]; rfl
  · rw [va_up_ne _ _ (by omega), setP_ne (by omega) (by omega), va_up_ne _ _ (by omega), va_up_ne _ _ (by omega), va_up_ne _ _ (by omega), setP_ne (by omega) (by omega), va_up_ne _ _ (by omega), va_up_ne _ _ (by omega)]
end
end
section
/-! the law's statics: they catch what the component throws -/
def exL : List String := [ISE, IAE, IOB, AEX, NSE]
def exP : List (String × String) := [(ISE, IAE), (IOB, ISE), (AEX, ISE), (AEX, IOB), (NSE, ISE)]
def NC (U : State) : Prop := (∀ E ∈ exL, va_Nw (.castable E E) U) ∧ ∀ q ∈ exP, va_Nc q.1 q.2 U
theorem NC.warm {s U : State} (hW : s.WarmedH U.vm) (h : NC s) : NC U := ⟨fun E hE => va_Nw.warmC hW (h.1 E hE), fun q hq => va_Nc.moved hW.alike (h.2 q hq)⟩
theorem NC.calling {U : State} {g : JFrame} {mk : MethodId} {a : Array Value} (h : NC U) : NC (U.calling g mk a) := ⟨fun E hE => va_Nw.same rfl (u := U) rfl (h.1 E hE), fun q hq => va_Nc.moved (u := U) (Vm.Alike.refl U.vm) (h.2 q hq)⟩
def kPh (D : va_G) (dA ad sa : Nat → Nat) (L : List Nat) (av : List Value) (hp : Nat → KE) (sz : Nat) : Array Value → State → Prop := fun a U => kPc D dA ad sa L av hp sz a U ∧ NC U
theorem kPh_blind (D : va_G) (dA ad sa : Nat → Nat) (L : List Nat) (av : List Value) (hp : Nat → KE) (sz : Nat) : FrameBlind (kPh D dA ad sa L av hp sz) := fun a U g mk q => ⟨kPc_blind D dA ad sa L av hp sz a U g mk q.1, q.2.calling⟩
/-- a static with a table of handlers: it returns -/
def KH (l : Launch) (y : MethodName) (cc : ByteArray) (maxL : Nat) (hh : List (Nat × Nat × Nat × Nat)) (rm : Room) (D : va_G) (dA ad sa : Nat → Nat) (L : List Nat) (av : List Value) (hp : Nat → KE) (post : Option Value → (Nat → KE) → Prop) : Prop :=
  ∀ sz : Nat, vx_Met l y (Cond.codeWith y cc maxL (some .int) hh :: WW) rm (kPh D dA ad sa L av hp sz) (kR D dA ad L (kA ad L sz) post) (kX D dA ad L (kA ad L sz) (fun _ _ => False)) rm.cells rm.slots (kA ad L sz)
def HND (own : String) (hh : List (Nat × Nat × Nat × Nat)) (pc : Nat) (E : String) (h : Nat) : Prop := ∃ (pre : List (Nat × Nat × Nat × Nat)) (q : Nat × Nat × Nat × Nat) (suf : List (Nat × Nat × Nat × Nat)), hh = pre ++ q :: suf ∧ (∀ z ∈ pre, z.2.2.2 ≠ 0 ∧ ∃ nm : String, Cond.classLink own z.2.2.2 nm ∈ WW ∧ (E, nm) ∈ exP) ∧ covers ⟨q.1, q.2.1, q.2.2.1, q.2.2.2⟩ pc = true ∧ q.2.2.2 ≠ 0 ∧ Cond.classLink own q.2.2.2 E ∈ WW ∧ E ∈ exL ∧ q.2.2.1 = h
section
variable {p : Program} {l : Launch} {e : Env} {R : Room} {s : State} {m : MethodId} {args : Array Value} {below : List Frame} {meth : Method} {c : Code} {D : va_G} {dA ad sa : Nat → Nat} {L : List Nat} {A : Nat → Prop} {nL cells slots : Nat} {Q : State → Prop} {hp : Nat → KE} {own : String} {cc : ByteArray} {ret : Option FieldType} {tb : List (Nat × Instr × Nat)}
theorem KH.of {y : MethodName} {maxL : Nat} {hh : List (Nat × Nat × Nat × Nat)} {rm : Room} {av : List Value} {post : Option Value → (Nat → KE) → Prop} (hy : plainName y.cls = true) (htb : tbOK cc tb = true) (hlen : (lg_sl av).length ≤ maxL) (hj : kinj ad L) (hn : L.Nodup)
    (body : ∀ (p : Program) (e : Env) (s : State) (m : MethodId) (args : Array Value) (below : List Frame) (meth : Method) (c : Code) (A : Nat → Prop), CX p s m args meth c y.cls cc maxL (some .int) tb D dA ad L A → NW A sa s s.heap → NC s → c.exceptionTable.toList = tableOf hh → G p l e rm s m args below meth c D dA ad L A maxL 0 0 (vx_MQ below (kR D dA ad L A post) (kX D dA ad L A (fun _ _ => False)) args s rm.cells rm.slots A) hp 0 (lv_args 0 av) []) :
    KH l y cc maxL hh rm D dA ad sa L av hp post := by
  intro sz
  refine vx_ofWH (cc := cc) (maxL := maxL) (ret := some .int) (hh := hh) hy rfl ?_
  intro p e s m args below meth c s₁ B hml hv
  obtain ⟨⟨h0, hsz, hP, hK, hN⟩, hNC⟩ := hv
  have hts := atoms_spec (ws := Cond.codeWith y cc maxL (some .int) hh :: WW) B.pre
  have htab := vx_table (x := y) B (hts _ List.mem_cons_self)
  have hC : CX p s m args meth c y.cls cc maxL (some .int) tb D dA ad L (kA ad L sz) := ⟨⟨B.exec, B.bytes, hml, findClass_of_methodNamed B.named, fun w hw => hts w (List.mem_cons_of_mem _ hw)⟩, B.returns, B.notSynchronized, htb, hK, hj, hn, fun k hk => Or.inl ⟨k, hk, rfl⟩, fun q h => Or.inr (by rw [← hsz]; exact h)⟩
  have K := body p e s m args below meth c _ hC hN hNC htab
  have hl := lv_entry (av.map (em ad)) (n := maxL) (by rw [sl_len]; exact hlen)
  rw [h0, lg_entry_eq]
  rw [h0] at K
  exact K s.heap [] _ hP va_S.rf (by rw [← args_emL]; exact hl)
/-- behind a catch: the thing caught goes into a local -/
theorem g_caught_n (hC : CX p s m args meth c own cc nL ret tb D dA ad L A) {h nx : Nat} {z : Fin 4} {lv : List (Nat × Value)} (hf : fd tb h = some (.astore_n z, nx)) (hz : (z : Nat) < nL) (k : G p l e R s m args below meth c D dA ad L A nL cells slots Q hp nx [] []) :
    ∀ (H1 : Heap) (locs1 : List Loc) (ls : Array Slot) (q9 : Nat), va_P D kcl (kw dA ad L hp) H1 → va_S A s.heap H1 locs1 → lv_has ls nL (emL ad lv) → W p l e R s m args below meth c H1 locs1 cells slots Q (F0 m h ls [.ref q9]) := by
  obtain ⟨⟨hx, hb, hml, ho, hts⟩, -, -, htb, -⟩ := hC
  obtain ⟨n9, hd, hnx, hn9⟩ := fd_ok htb hf
  obtain rfl : n9 = 1 := hn9.resolve_left (by simp [ilen])
  subst hnx
  exact fun H1 locs1 ls q9 hP hS hl => lv_astore_n hx hb hd rfl hl hz rfl (fun ls' hl' => k H1 locs1 ls' hP hS ⟨hl'.1, hl'.2.1, fun q hq => by cases hq⟩)
theorem g_caught (hC : CX p s m args meth c own cc nL ret tb D dA ad L A) {h nx z : Nat} {lv : List (Nat × Value)} (hf : fd tb h = some (.astore z, nx)) (hz : z < nL) (k : G p l e R s m args below meth c D dA ad L A nL cells slots Q hp nx [] []) :
    ∀ (H1 : Heap) (locs1 : List Loc) (ls : Array Slot) (q9 : Nat), va_P D kcl (kw dA ad L hp) H1 → va_S A s.heap H1 locs1 → lv_has ls nL (emL ad lv) → W p l e R s m args below meth c H1 locs1 cells slots Q (F0 m h ls [.ref q9]) := by
  obtain ⟨⟨hx, hb, hml, ho, hts⟩, -, -, htb, -⟩ := hC
  obtain ⟨n9, hd, hnx, hn9⟩ := fd_ok htb hf
  obtain rfl : n9 = 2 := hn9.resolve_left (by simp [ilen])
  subst hnx
  exact fun H1 locs1 ls q9 hP hS hl => lv_astore hx hb hd hl hz rfl (fun ls' hl' => k H1 locs1 ls' hP hS ⟨hl'.1, hl'.2.1, fun q hq => by cases hq⟩)
set_option maxHeartbeats 2000000 in
theorem g_callVH (hC : CX p s m args meth c own cc nL ret tb D dA ad L A) (hN : NW A sa s s.heap) (hNC : NC s) {hh : List (Nat × Nat × Nat × Nat)} (htab : c.exceptionTable.toList = tableOf hh) {pc nx idx maxL2 : Nat} {k ci : Nat} {fs : List Value} {y : MethodName} {bytes : ByteArray} {ret2 : Option FieldType} {rm2 : Room} {rest st : List Value} {lv : List (Nat × Value)} {post : Option Value → (Nat → KE) → Prop} {px : String → (Nat → KE) → Prop} (As : List Value) (hM : KX l y bytes maxL2 ret2 rm2 D dA ad sa L (.ref k :: As) hp post px) (hf : fd tb pc = some (.invokevirtual idx, nx)) (hm : MLK own idx y bytes maxL2 ret2 As.length) (hk : k ∈ L) (hh2 : hp k = kO ci fs) (hci : kcl[ci]? = some (y.cls, fT ci, fN ci)) (hst : st = As.reverse ++ .ref k :: rest) (hw : (rest.map fun v => v.category).sum ≤ 8) (hR : rm2.frames + 1 ≤ R.frames ∧ 8 + (maxL2 + 11) + rm2.locals ≤ R.locals) (hfc : cells + rm2.cells ≤ R.cells ∧ slots + rm2.slots ≤ R.slots)
    (kx : ∀ (E : String) (hp' : Nat → KE), px E hp' → ∃ h, HND own hh pc E h ∧ ∀ (H1 : Heap) (locs1 : List Loc) (ls : Array Slot) (q9 : Nat), va_P D kcl (kw dA ad L hp') H1 → va_S A s.heap H1 locs1 → lv_has ls nL (emL ad lv) → W p l e R s m args below meth c H1 locs1 (cells + rm2.cells) (slots + rm2.slots) Q (F0 m h ls [.ref q9]))
    (kk : ∀ (r : Option Value) (hp' : Nat → KE), post r hp' → G p l e R s m args below meth c D dA ad L A nL (cells + rm2.cells) (slots + rm2.slots) Q hp' nx lv (r.toList ++ rest)) : G p l e R s m args below meth c D dA ad L A nL cells slots Q hp pc lv st := by
  have hC0 := hC
  obtain ⟨⟨hx, hb, hml, ho, hts⟩, hr9, hlk, htb, hK, hj1, hnd, hA, hA2⟩ := hC
  obtain ⟨n9, hd, hnx, hn9⟩ := fd_ok htb hf
  obtain rfl : n9 = 3 := hn9.resolve_left (by simp [ilen])
  subst hnx
  subst hst
  intro H locs ls hP hS hl
  obtain ⟨i, hi⟩ := kw_get (dA := dA) (ad := ad) (hp := hp) hk
  rw [hh2] at hi
  have hrec := va_recv hK hP hci hi
  have hrun := vx_runV (e := e) (below := below) (meth := meth) (locs := locs) (cells := cells) (slots := slots) (As := As.map (em ad)) (rest := rest.map (em ad)) (b := ad k) (C := y.cls) (g := F0 m pc ls ((As.reverse ++ .ref k :: rest).map (em ad))) ⟨hx, hb, hml, ho, hts⟩ (hM H.size) (cwV As.length hts (goodIn_V hm) rfl rfl rfl hm.2 hR) ⟨kPc_blind D dA ad sa L (.ref k :: As) hp H.size, hrec, k_pre hC0 hN hP hS⟩ rfl (by rw [List.length_map]) hl.1 (by simp [em]) (lv_room (by rw [em_cats]; exact hw)) hd hfc
  refine k_runx hrun hS (kA_sub hA hA2 hS) (kA_sub hA hA2 hS) (fun E hp' H1 locs1 ce q9 hpe hP1 hS1 hce hcv hcl => ?_) (fun r hp' H1 locs1 hpo hP1 hS1 => ?_)
  · obtain ⟨h, ⟨pre, q, suf, e1, hpre, c1, c0, hlk9, hE9, hq⟩, K⟩ := kx E hp' hpe
    subst hq
    refine vx_catch ho (tableOf pre) ⟨q.1, q.2.1, q.2.2.1, q.2.2.2⟩ (tableOf suf) (by rw [htab, e1]; simp [tableOf]) (fun z hz => ?_) c1 c0 (hts _ hlk9) (va_Nw.use rfl (hNC.1 E hE9)) hce hcv hcl (K H1 locs1 ls q9 hP1 hS1 hl)
    obtain ⟨z0, hz0, rfl⟩ := List.mem_map.mp hz
    obtain ⟨z1, nm, z2, z3⟩ := hpre z0 hz0
    exact Or.inr ⟨z1, nm, hts _ z2, hNC.2 _ z3⟩
  · rw [em_stk]
    exact kk r hp' hpo H1 locs1 ls hP1 hS1 hl
end
end
section
section
variable {l : Launch} {D : va_G} {dA ad sa : Nat → Nat} {L : List Nat} {hp : Nat → KE} {fs : List Value} {d mc ms : Nat} {post : Option Value → (Nat → KE) → Prop} {px : String → (Nat → KE) → Prop}
theorem c_L_input (hW : KF ad L) (h0 : hp 0 = kO 2 fs) (hM : KX l yX2_input cX2_input 1 (some .int) (rmK d mc ms) D dA ad sa L [.ref 0] hp post px) (ho : ∀ r hp', post r hp' → ∃ (v : Int32) (f : Nat → Int64), r = some (.int v) ∧ hp' 65 = kJ 1 f) (hx : ∀ E hp', px E hp' → E = ISE) : KH l yL_input cL_input 3 [(0, 8, 11, 13)] (rmK (d + 1) mc ms) D dA ad sa L [.ref 0, .ref 65] hp (fun r hp' => (∃ (v : Int32) (hp1 : Nat → KE) (f : Nat → Int64), post (some (.int v)) hp1 ∧ hp1 65 = kJ 1 f ∧ r = some (.int 0) ∧ hp' = va_up hp1 65 (kJ 1 (va_up f 0 v.toInt64))) ∨ (px ISE hp' ∧ r = some (.int 1))) := by
  refine KH.of rfl ok_L_input (len_of rfl) hW.1.1 hW.1.2 ?_
  intro p e s m args below meth c A hC hN hNC htab
  refine g_run hC 3 rfl ?_
  refine g_callVH hC hN hNC htab [] hM rfl M_L_7 (hW.2 0 (by decide)) h0 rfl rfl (len_of rfl) ⟨Nat.le_refl _, by show 8 + (1 + 11) + 40 * d ≤ 40 * (d + 1); omega⟩ ⟨by show 0 + mc ≤ mc; omega, by show 0 + ms ≤ ms; omega⟩ (fun E hp1 hE => ?_) (fun r hp1 hr => ?_)
  · obtain rfl := hx E hp1 hE
    refine ⟨11, ⟨[], (0, 8, 11, 13), [], rfl, ?_, rfl, by decide, kL_L_13, by decide +kernel, rfl⟩, g_caught_n hC rfl (by decide) ?_⟩
    · intro z hz; cases hz
    · refine g_run hC 1 rfl ?_
      exact gx_iret hC rfl rfl (Or.inr (⟨hE, rfl⟩)) (by show 0 + mc ≤ mc; omega) (by show 0 + ms ≤ ms; omega)
  · obtain ⟨v, f, rfl, h65⟩ := ho r hp1 hr
    refine g_run hC 1 rfl ?_
    refine g_lst hC 0 rfl (hW.2 65 (by decide)) h65 rfl (by decide) (by decide) ?_
    refine g_run hC 2 rfl ?_
    exact gx_iret hC rfl rfl (Or.inl ⟨v, hp1, f, hr, h65, rfl, rfl⟩) (by show 0 + mc ≤ mc; omega) (by show 0 + ms ≤ ms; omega)
theorem c_L_gate (hW : KF ad L) {x0 x1 x2 x3 : Int32} (h0 : hp 0 = kO 2 fs) (hM : KX l yX2_gate cX2_gate 7 (some .int) (rmK d mc ms) D dA ad sa L [.ref 0, .int x0, .int x1, .int x2, .int x3] hp post px) (ho : ∀ r hp', post r hp' → ∃ (v : Int32) (f : Nat → Int64), r = some (.int v) ∧ hp' 65 = kJ 1 f) (hx : ∀ E hp', px E hp' → E = IAE ∨ E = ISE) : KH l yL_gate cL_gate 7 [(0, 14, 17, 19), (0, 14, 21, 13)] (rmK (d + 1) mc ms) D dA ad sa L [.ref 0, .int x0, .int x1, .int x2, .int x3, .ref 65] hp (fun r hp' => (∃ (v : Int32) (hp1 : Nat → KE) (f : Nat → Int64), post (some (.int v)) hp1 ∧ hp1 65 = kJ 1 f ∧ r = some (.int 0) ∧ hp' = va_up hp1 65 (kJ 1 (va_up f 0 v.toInt64))) ∨ (px IAE hp' ∧ r = some (.int 1)) ∨ (px ISE hp' ∧ r = some (.int 2))) := by
  refine KH.of rfl ok_L_gate (len_of rfl) hW.1.1 hW.1.2 ?_
  intro p e s m args below meth c A hC hN hNC htab
  refine g_run hC 7 rfl ?_
  refine g_callVH hC hN hNC htab [.int x0, .int x1, .int x2, .int x3] hM rfl M_L_15 (hW.2 0 (by decide)) h0 rfl rfl (len_of rfl) ⟨Nat.le_refl _, by show 8 + (7 + 11) + 40 * d ≤ 40 * (d + 1); omega⟩ ⟨by show 0 + mc ≤ mc; omega, by show 0 + ms ≤ ms; omega⟩ (fun E hp1 hE => ?_) (fun r hp1 hr => ?_)
  · rcases hx E hp1 hE with rfl | rfl
    · refine ⟨17, ⟨[], (0, 14, 17, 19), [(0, 14, 21, 13)], rfl, ?_, rfl, by decide, kL_L_19, by decide +kernel, rfl⟩, g_caught hC rfl (by decide) ?_⟩
      · intro z hz; cases hz
      · refine g_run hC 1 rfl ?_
        exact gx_iret hC rfl rfl (Or.inr (Or.inl ⟨hE, rfl⟩)) (by show 0 + mc ≤ mc; omega) (by show 0 + ms ≤ ms; omega)
    · refine ⟨21, ⟨[(0, 14, 17, 19)], (0, 14, 21, 13), [], rfl, ?_, rfl, by decide, kL_L_13, by decide +kernel, rfl⟩, g_caught hC rfl (by decide) ?_⟩
      · intro z hz
        obtain rfl := List.mem_singleton.mp hz
        exact ⟨by decide, _, kL_L_19, by decide +kernel⟩
      · refine g_run hC 1 rfl ?_
        exact gx_iret hC rfl rfl (Or.inr (Or.inr (⟨hE, rfl⟩))) (by show 0 + mc ≤ mc; omega) (by show 0 + ms ≤ ms; omega)
  · obtain ⟨v, f, rfl, h65⟩ := ho r hp1 hr
    refine g_run hC 1 rfl ?_
    refine g_lst hC 0 rfl (hW.2 65 (by decide)) h65 rfl (by decide) (by decide) ?_
    refine g_run hC 2 rfl ?_
    exact gx_iret hC rfl rfl (Or.inl ⟨v, hp1, f, hr, h65, rfl, rfl⟩) (by show 0 + mc ≤ mc; omega) (by show 0 + ms ≤ ms; omega)
theorem c_L_add (hW : KF ad L) {x0 x1 : Int32} (h0 : hp 0 = kO 2 fs) (hM : KX l yX2_add cX2_add 3 (some .int) (rmK d mc ms) D dA ad sa L [.ref 0, .int x0, .int x1] hp post px) (ho : ∀ r hp', post r hp' → ∃ (v : Int32) (f : Nat → Int64), r = some (.int v) ∧ hp' 65 = kJ 1 f) (hx : ∀ E hp', px E hp' → E = IAE ∨ E = ISE) : KH l yL_add cL_add 5 [(0, 10, 13, 19), (0, 10, 17, 13)] (rmK (d + 1) mc ms) D dA ad sa L [.ref 0, .int x0, .int x1, .ref 65] hp (fun r hp' => (∃ (v : Int32) (hp1 : Nat → KE) (f : Nat → Int64), post (some (.int v)) hp1 ∧ hp1 65 = kJ 1 f ∧ r = some (.int 0) ∧ hp' = va_up hp1 65 (kJ 1 (va_up f 0 v.toInt64))) ∨ (px IAE hp' ∧ r = some (.int 1)) ∨ (px ISE hp' ∧ r = some (.int 2))) := by
  refine KH.of rfl ok_L_add (len_of rfl) hW.1.1 hW.1.2 ?_
  intro p e s m args below meth c A hC hN hNC htab
  refine g_run hC 5 rfl ?_
  refine g_callVH hC hN hNC htab [.int x0, .int x1] hM rfl M_L_21 (hW.2 0 (by decide)) h0 rfl rfl (len_of rfl) ⟨Nat.le_refl _, by show 8 + (3 + 11) + 40 * d ≤ 40 * (d + 1); omega⟩ ⟨by show 0 + mc ≤ mc; omega, by show 0 + ms ≤ ms; omega⟩ (fun E hp1 hE => ?_) (fun r hp1 hr => ?_)
  · rcases hx E hp1 hE with rfl | rfl
    · refine ⟨13, ⟨[], (0, 10, 13, 19), [(0, 10, 17, 13)], rfl, ?_, rfl, by decide, kL_L_19, by decide +kernel, rfl⟩, g_caught hC rfl (by decide) ?_⟩
      · intro z hz; cases hz
      · refine g_run hC 1 rfl ?_
        exact gx_iret hC rfl rfl (Or.inr (Or.inl ⟨hE, rfl⟩)) (by show 0 + mc ≤ mc; omega) (by show 0 + ms ≤ ms; omega)
    · refine ⟨17, ⟨[(0, 10, 13, 19)], (0, 10, 17, 13), [], rfl, ?_, rfl, by decide, kL_L_13, by decide +kernel, rfl⟩, g_caught hC rfl (by decide) ?_⟩
      · intro z hz
        obtain rfl := List.mem_singleton.mp hz
        exact ⟨by decide, _, kL_L_19, by decide +kernel⟩
      · refine g_run hC 1 rfl ?_
        exact gx_iret hC rfl rfl (Or.inr (Or.inr (⟨hE, rfl⟩))) (by show 0 + mc ≤ mc; omega) (by show 0 + ms ≤ ms; omega)
  · obtain ⟨v, f, rfl, h65⟩ := ho r hp1 hr
    refine g_run hC 1 rfl ?_
    refine g_lst hC 0 rfl (hW.2 65 (by decide)) h65 rfl (by decide) (by decide) ?_
    refine g_run hC 2 rfl ?_
    exact gx_iret hC rfl rfl (Or.inl ⟨v, hp1, f, hr, h65, rfl, rfl⟩) (by show 0 + mc ≤ mc; omega) (by show 0 + ms ≤ ms; omega)
theorem c_L_simulate (hW : KF ad L) {x0 : Int32} (h0 : hp 0 = kO 2 fs) (hM : KX l yX2_simulate cX2_simulate 2 (some .int) (rmK d mc ms) D dA ad sa L [.ref 0, .int x0] hp post px) (ho : ∀ r hp', post r hp' → ∃ (v : Int32) (f : Nat → Int64), r = some (.int v) ∧ hp' 65 = kJ 1 f) (hx : ∀ E hp', px E hp' → E = IAE) : KH l yL_simulate cL_simulate 4 [(0, 9, 12, 19)] (rmK (d + 1) mc ms) D dA ad sa L [.ref 0, .int x0, .ref 65] hp (fun r hp' => (∃ (v : Int32) (hp1 : Nat → KE) (f : Nat → Int64), post (some (.int v)) hp1 ∧ hp1 65 = kJ 1 f ∧ r = some (.int 0) ∧ hp' = va_up hp1 65 (kJ 1 (va_up f 0 v.toInt64))) ∨ (px IAE hp' ∧ r = some (.int 1))) := by
  refine KH.of rfl ok_L_simulate (len_of rfl) hW.1.1 hW.1.2 ?_
  intro p e s m args below meth c A hC hN hNC htab
  refine g_run hC 4 rfl ?_
  refine g_callVH hC hN hNC htab [.int x0] hM rfl M_L_25 (hW.2 0 (by decide)) h0 rfl rfl (len_of rfl) ⟨Nat.le_refl _, by show 8 + (2 + 11) + 40 * d ≤ 40 * (d + 1); omega⟩ ⟨by show 0 + mc ≤ mc; omega, by show 0 + ms ≤ ms; omega⟩ (fun E hp1 hE => ?_) (fun r hp1 hr => ?_)
  · obtain rfl := hx E hp1 hE
    refine ⟨12, ⟨[], (0, 9, 12, 19), [], rfl, ?_, rfl, by decide, kL_L_19, by decide +kernel, rfl⟩, g_caught_n hC rfl (by decide) ?_⟩
    · intro z hz; cases hz
    · refine g_run hC 1 rfl ?_
      exact gx_iret hC rfl rfl (Or.inr (⟨hE, rfl⟩)) (by show 0 + mc ≤ mc; omega) (by show 0 + ms ≤ ms; omega)
  · obtain ⟨v, f, rfl, h65⟩ := ho r hp1 hr
    refine g_run hC 1 rfl ?_
    refine g_lst hC 0 rfl (hW.2 65 (by decide)) h65 rfl (by decide) (by decide) ?_
    refine g_run hC 2 rfl ?_
    exact gx_iret hC rfl rfl (Or.inl ⟨v, hp1, f, hr, h65, rfl, rfl⟩) (by show 0 + mc ≤ mc; omega) (by show 0 + ms ≤ ms; omega)
theorem c_L_evaluate (hW : KF ad L) {x0 : Int32} (h0 : hp 0 = kO 2 fs) (hM : KX l yX2_evaluate cX2_evaluate 2 (some .long) (rmK d mc ms) D dA ad sa L [.ref 0, .int x0] hp post px) (ho : ∀ r hp', post r hp' → ∃ (v : Int64) (f : Nat → Int64), r = some (.long v) ∧ hp' 65 = kJ 1 f) (hx : ∀ E hp', px E hp' → E = IAE) : KH l yL_evaluate cL_evaluate 4 [(0, 8, 11, 19)] (rmK (d + 1) mc ms) D dA ad sa L [.ref 0, .int x0, .ref 65] hp (fun r hp' => (∃ (v : Int64) (hp1 : Nat → KE) (f : Nat → Int64), post (some (.long v)) hp1 ∧ hp1 65 = kJ 1 f ∧ r = some (.int 0) ∧ hp' = va_up hp1 65 (kJ 1 (va_up f 0 v))) ∨ (px IAE hp' ∧ r = some (.int 1))) := by
  refine KH.of rfl ok_L_evaluate (len_of rfl) hW.1.1 hW.1.2 ?_
  intro p e s m args below meth c A hC hN hNC htab
  refine g_run hC 4 rfl ?_
  refine g_callVH hC hN hNC htab [.int x0] hM rfl M_L_29 (hW.2 0 (by decide)) h0 rfl rfl (len_of rfl) ⟨Nat.le_refl _, by show 8 + (2 + 11) + 40 * d ≤ 40 * (d + 1); omega⟩ ⟨by show 0 + mc ≤ mc; omega, by show 0 + ms ≤ ms; omega⟩ (fun E hp1 hE => ?_) (fun r hp1 hr => ?_)
  · obtain rfl := hx E hp1 hE
    refine ⟨11, ⟨[], (0, 8, 11, 19), [], rfl, ?_, rfl, by decide, kL_L_19, by decide +kernel, rfl⟩, g_caught_n hC rfl (by decide) ?_⟩
    · intro z hz; cases hz
    · refine g_run hC 1 rfl ?_
      exact gx_iret hC rfl rfl (Or.inr (⟨hE, rfl⟩)) (by show 0 + mc ≤ mc; omega) (by show 0 + ms ≤ ms; omega)
  · obtain ⟨v, f, rfl, h65⟩ := ho r hp1 hr
    refine g_lst hC 0 rfl (hW.2 65 (by decide)) h65 rfl (by decide) (by decide) ?_
    refine g_run hC 2 rfl ?_
    exact gx_iret hC rfl rfl (Or.inl ⟨v, hp1, f, hr, h65, rfl, rfl⟩) (by show 0 + mc ≤ mc; omega) (by show 0 + ms ≤ ms; omega)
theorem c_L_prove (hW : KF ad L) (h0 : hp 0 = kO 2 fs) (hM : KX l yX2_prove cX2_prove 3 (some .int) (rmK d mc ms) D dA ad sa L [.ref 0] hp post px) (ho : ∀ r hp', post r hp' → ∃ (v : Int32) (f : Nat → Int64), r = some (.int v) ∧ hp' 65 = kJ 1 f) (hx : ∀ E hp', px E hp' → E = AEX) : KH l yL_prove cL_prove 3 [(0, 8, 11, 36)] (rmK (d + 1) mc ms) D dA ad sa L [.ref 0, .ref 65] hp (fun r hp' => (∃ (v : Int32) (hp1 : Nat → KE) (f : Nat → Int64), post (some (.int v)) hp1 ∧ hp1 65 = kJ 1 f ∧ r = some (.int 0) ∧ hp' = va_up hp1 65 (kJ 1 (va_up f 0 v.toInt64))) ∨ (px AEX hp' ∧ r = some (.int 1))) := by
  refine KH.of rfl ok_L_prove (len_of rfl) hW.1.1 hW.1.2 ?_
  intro p e s m args below meth c A hC hN hNC htab
  refine g_run hC 3 rfl ?_
  refine g_callVH hC hN hNC htab [] hM rfl M_L_33 (hW.2 0 (by decide)) h0 rfl rfl (len_of rfl) ⟨Nat.le_refl _, by show 8 + (3 + 11) + 40 * d ≤ 40 * (d + 1); omega⟩ ⟨by show 0 + mc ≤ mc; omega, by show 0 + ms ≤ ms; omega⟩ (fun E hp1 hE => ?_) (fun r hp1 hr => ?_)
  · obtain rfl := hx E hp1 hE
    refine ⟨11, ⟨[], (0, 8, 11, 36), [], rfl, ?_, rfl, by decide, kL_L_36, by decide +kernel, rfl⟩, g_caught_n hC rfl (by decide) ?_⟩
    · intro z hz; cases hz
    · refine g_run hC 1 rfl ?_
      exact gx_iret hC rfl rfl (Or.inr (⟨hE, rfl⟩)) (by show 0 + mc ≤ mc; omega) (by show 0 + ms ≤ ms; omega)
  · obtain ⟨v, f, rfl, h65⟩ := ho r hp1 hr
    refine g_run hC 1 rfl ?_
    refine g_lst hC 0 rfl (hW.2 65 (by decide)) h65 rfl (by decide) (by decide) ?_
    refine g_run hC 2 rfl ?_
    exact gx_iret hC rfl rfl (Or.inl ⟨v, hp1, f, hr, h65, rfl, rfl⟩) (by show 0 + mc ≤ mc; omega) (by show 0 + ms ≤ ms; omega)
theorem c_L_size (hW : KF ad L) {x0 : Int32} (h0 : hp 0 = kO 2 fs) (hM : KX l yX2_size cX2_size 2 (some .int) (rmK d mc ms) D dA ad sa L [.ref 0, .int x0] hp post px) (ho : ∀ r hp', post r hp' → ∃ (v : Int32) (f : Nat → Int64), r = some (.int v) ∧ hp' 65 = kJ 1 f) (hx : ∀ E hp', px E hp' → E = ISE ∨ E = IOB) : KH l yL_size cL_size 4 [(0, 9, 12, 13), (0, 9, 15, 41)] (rmK (d + 1) mc ms) D dA ad sa L [.ref 0, .int x0, .ref 65] hp (fun r hp' => (∃ (v : Int32) (hp1 : Nat → KE) (f : Nat → Int64), post (some (.int v)) hp1 ∧ hp1 65 = kJ 1 f ∧ r = some (.int 0) ∧ hp' = va_up hp1 65 (kJ 1 (va_up f 0 v.toInt64))) ∨ (px ISE hp' ∧ r = some (.int 1)) ∨ (px IOB hp' ∧ r = some (.int 2))) := by
  refine KH.of rfl ok_L_size (len_of rfl) hW.1.1 hW.1.2 ?_
  intro p e s m args below meth c A hC hN hNC htab
  refine g_run hC 4 rfl ?_
  refine g_callVH hC hN hNC htab [.int x0] hM rfl M_L_38 (hW.2 0 (by decide)) h0 rfl rfl (len_of rfl) ⟨Nat.le_refl _, by show 8 + (2 + 11) + 40 * d ≤ 40 * (d + 1); omega⟩ ⟨by show 0 + mc ≤ mc; omega, by show 0 + ms ≤ ms; omega⟩ (fun E hp1 hE => ?_) (fun r hp1 hr => ?_)
  · rcases hx E hp1 hE with rfl | rfl
    · refine ⟨12, ⟨[], (0, 9, 12, 13), [(0, 9, 15, 41)], rfl, ?_, rfl, by decide, kL_L_13, by decide +kernel, rfl⟩, g_caught_n hC rfl (by decide) ?_⟩
      · intro z hz; cases hz
      · refine g_run hC 1 rfl ?_
        exact gx_iret hC rfl rfl (Or.inr (Or.inl ⟨hE, rfl⟩)) (by show 0 + mc ≤ mc; omega) (by show 0 + ms ≤ ms; omega)
    · refine ⟨15, ⟨[(0, 9, 12, 13)], (0, 9, 15, 41), [], rfl, ?_, rfl, by decide, kL_L_41, by decide +kernel, rfl⟩, g_caught_n hC rfl (by decide) ?_⟩
      · intro z hz
        obtain rfl := List.mem_singleton.mp hz
        exact ⟨by decide, _, kL_L_13, by decide +kernel⟩
      · refine g_run hC 1 rfl ?_
        exact gx_iret hC rfl rfl (Or.inr (Or.inr (⟨hE, rfl⟩))) (by show 0 + mc ≤ mc; omega) (by show 0 + ms ≤ ms; omega)
  · obtain ⟨v, f, rfl, h65⟩ := ho r hp1 hr
    refine g_run hC 1 rfl ?_
    refine g_lst hC 0 rfl (hW.2 65 (by decide)) h65 rfl (by decide) (by decide) ?_
    refine g_run hC 2 rfl ?_
    exact gx_iret hC rfl rfl (Or.inl ⟨v, hp1, f, hr, h65, rfl, rfl⟩) (by show 0 + mc ≤ mc; omega) (by show 0 + ms ≤ ms; omega)
theorem c_L_monomial (hW : KF ad L) {x0 x1 : Int32} (h0 : hp 0 = kO 2 fs) (hM : KX l yX2_monomial cX2_monomial 4 (some .int) (rmK d mc ms) D dA ad sa L [.ref 0, .int x0, .int x1] hp post px) (ho : ∀ r hp', post r hp' → ∃ (v : Int32) (f : Nat → Int64), r = some (.int v) ∧ hp' 65 = kJ 1 f) (hx : ∀ E hp', px E hp' → E = ISE ∨ E = IOB) : KH l yL_monomial cL_monomial 5 [(0, 10, 13, 13), (0, 10, 17, 41)] (rmK (d + 1) mc ms) D dA ad sa L [.ref 0, .int x0, .int x1, .ref 65] hp (fun r hp' => (∃ (v : Int32) (hp1 : Nat → KE) (f : Nat → Int64), post (some (.int v)) hp1 ∧ hp1 65 = kJ 1 f ∧ r = some (.int 0) ∧ hp' = va_up hp1 65 (kJ 1 (va_up f 0 v.toInt64))) ∨ (px ISE hp' ∧ r = some (.int 1)) ∨ (px IOB hp' ∧ r = some (.int 2))) := by
  refine KH.of rfl ok_L_monomial (len_of rfl) hW.1.1 hW.1.2 ?_
  intro p e s m args below meth c A hC hN hNC htab
  refine g_run hC 5 rfl ?_
  refine g_callVH hC hN hNC htab [.int x0, .int x1] hM rfl M_L_43 (hW.2 0 (by decide)) h0 rfl rfl (len_of rfl) ⟨Nat.le_refl _, by show 8 + (4 + 11) + 40 * d ≤ 40 * (d + 1); omega⟩ ⟨by show 0 + mc ≤ mc; omega, by show 0 + ms ≤ ms; omega⟩ (fun E hp1 hE => ?_) (fun r hp1 hr => ?_)
  · rcases hx E hp1 hE with rfl | rfl
    · refine ⟨13, ⟨[], (0, 10, 13, 13), [(0, 10, 17, 41)], rfl, ?_, rfl, by decide, kL_L_13, by decide +kernel, rfl⟩, g_caught hC rfl (by decide) ?_⟩
      · intro z hz; cases hz
      · refine g_run hC 1 rfl ?_
        exact gx_iret hC rfl rfl (Or.inr (Or.inl ⟨hE, rfl⟩)) (by show 0 + mc ≤ mc; omega) (by show 0 + ms ≤ ms; omega)
    · refine ⟨17, ⟨[(0, 10, 13, 13)], (0, 10, 17, 41), [], rfl, ?_, rfl, by decide, kL_L_41, by decide +kernel, rfl⟩, g_caught hC rfl (by decide) ?_⟩
      · intro z hz
        obtain rfl := List.mem_singleton.mp hz
        exact ⟨by decide, _, kL_L_13, by decide +kernel⟩
      · refine g_run hC 1 rfl ?_
        exact gx_iret hC rfl rfl (Or.inr (Or.inr (⟨hE, rfl⟩))) (by show 0 + mc ≤ mc; omega) (by show 0 + ms ≤ ms; omega)
  · obtain ⟨v, f, rfl, h65⟩ := ho r hp1 hr
    refine g_run hC 1 rfl ?_
    refine g_lst hC 0 rfl (hW.2 65 (by decide)) h65 rfl (by decide) (by decide) ?_
    refine g_run hC 2 rfl ?_
    exact gx_iret hC rfl rfl (Or.inl ⟨v, hp1, f, hr, h65, rfl, rfl⟩) (by show 0 + mc ≤ mc; omega) (by show 0 + ms ≤ ms; omega)
theorem c_L_coefficient (hW : KF ad L) {x0 x1 : Int32} (h0 : hp 0 = kO 2 fs) (hM : KX l yX2_coefficient cX2_coefficient 4 (some .long) (rmK d mc ms) D dA ad sa L [.ref 0, .int x0, .int x1] hp post px) (ho : ∀ r hp', post r hp' → ∃ (v : Int64) (f : Nat → Int64), r = some (.long v) ∧ hp' 65 = kJ 1 f) (hx : ∀ E hp', px E hp' → E = ISE ∨ E = IOB) : KH l yL_coefficient cL_coefficient 5 [(0, 9, 12, 13), (0, 9, 16, 41)] (rmK (d + 1) mc ms) D dA ad sa L [.ref 0, .int x0, .int x1, .ref 65] hp (fun r hp' => (∃ (v : Int64) (hp1 : Nat → KE) (f : Nat → Int64), post (some (.long v)) hp1 ∧ hp1 65 = kJ 1 f ∧ r = some (.int 0) ∧ hp' = va_up hp1 65 (kJ 1 (va_up f 0 v))) ∨ (px ISE hp' ∧ r = some (.int 1)) ∨ (px IOB hp' ∧ r = some (.int 2))) := by
  refine KH.of rfl ok_L_coefficient (len_of rfl) hW.1.1 hW.1.2 ?_
  intro p e s m args below meth c A hC hN hNC htab
  refine g_run hC 5 rfl ?_
  refine g_callVH hC hN hNC htab [.int x0, .int x1] hM rfl M_L_46 (hW.2 0 (by decide)) h0 rfl rfl (len_of rfl) ⟨Nat.le_refl _, by show 8 + (4 + 11) + 40 * d ≤ 40 * (d + 1); omega⟩ ⟨by show 0 + mc ≤ mc; omega, by show 0 + ms ≤ ms; omega⟩ (fun E hp1 hE => ?_) (fun r hp1 hr => ?_)
  · rcases hx E hp1 hE with rfl | rfl
    · refine ⟨12, ⟨[], (0, 9, 12, 13), [(0, 9, 16, 41)], rfl, ?_, rfl, by decide, kL_L_13, by decide +kernel, rfl⟩, g_caught hC rfl (by decide) ?_⟩
      · intro z hz; cases hz
      · refine g_run hC 1 rfl ?_
        exact gx_iret hC rfl rfl (Or.inr (Or.inl ⟨hE, rfl⟩)) (by show 0 + mc ≤ mc; omega) (by show 0 + ms ≤ ms; omega)
    · refine ⟨16, ⟨[(0, 9, 12, 13)], (0, 9, 16, 41), [], rfl, ?_, rfl, by decide, kL_L_41, by decide +kernel, rfl⟩, g_caught hC rfl (by decide) ?_⟩
      · intro z hz
        obtain rfl := List.mem_singleton.mp hz
        exact ⟨by decide, _, kL_L_13, by decide +kernel⟩
      · refine g_run hC 1 rfl ?_
        exact gx_iret hC rfl rfl (Or.inr (Or.inr (⟨hE, rfl⟩))) (by show 0 + mc ≤ mc; omega) (by show 0 + ms ≤ ms; omega)
  · obtain ⟨v, f, rfl, h65⟩ := ho r hp1 hr
    refine g_lst hC 0 rfl (hW.2 65 (by decide)) h65 rfl (by decide) (by decide) ?_
    refine g_run hC 2 rfl ?_
    exact gx_iret hC rfl rfl (Or.inl ⟨v, hp1, f, hr, h65, rfl, rfl⟩) (by show 0 + mc ≤ mc; omega) (by show 0 + ms ≤ ms; omega)
theorem c_L_spoil (hW : KF ad L) {x0 x1 x2 : Int32} (h0 : hp 0 = kO 2 fs) (hM : KX l yX2_spoil cX2_spoil 6 (some .long) (rmK d mc ms) D dA ad sa L [.ref 0, .int x0, .int x1, .int x2] hp post px) (ho : ∀ r hp', post r hp' → ∃ (v : Int64) (f : Nat → Int64), r = some (.long v) ∧ hp' 65 = kJ 1 f) (hx : ∀ E hp', px E hp' → E = ISE ∨ E = IOB ∨ E = AEX) : KH l yL_spoil cL_spoil 6 [(0, 11, 14, 13), (0, 11, 18, 41), (0, 11, 22, 36)] (rmK (d + 1) mc ms) D dA ad sa L [.ref 0, .int x0, .int x1, .int x2, .ref 65] hp (fun r hp' => (∃ (v : Int64) (hp1 : Nat → KE) (f : Nat → Int64), post (some (.long v)) hp1 ∧ hp1 65 = kJ 1 f ∧ r = some (.int 0) ∧ hp' = va_up hp1 65 (kJ 1 (va_up f 0 v))) ∨ (px ISE hp' ∧ r = some (.int 1)) ∨ (px IOB hp' ∧ r = some (.int 2)) ∨ (px AEX hp' ∧ r = some (.int 3))) := by
  refine KH.of rfl ok_L_spoil (len_of rfl) hW.1.1 hW.1.2 ?_
  intro p e s m args below meth c A hC hN hNC htab
  refine g_run hC 6 rfl ?_
  refine g_callVH hC hN hNC htab [.int x0, .int x1, .int x2] hM rfl M_L_50 (hW.2 0 (by decide)) h0 rfl rfl (len_of rfl) ⟨Nat.le_refl _, by show 8 + (6 + 11) + 40 * d ≤ 40 * (d + 1); omega⟩ ⟨by show 0 + mc ≤ mc; omega, by show 0 + ms ≤ ms; omega⟩ (fun E hp1 hE => ?_) (fun r hp1 hr => ?_)
  · rcases hx E hp1 hE with rfl | rfl | rfl
    · refine ⟨14, ⟨[], (0, 11, 14, 13), [(0, 11, 18, 41), (0, 11, 22, 36)], rfl, ?_, rfl, by decide, kL_L_13, by decide +kernel, rfl⟩, g_caught hC rfl (by decide) ?_⟩
      · intro z hz; cases hz
      · refine g_run hC 1 rfl ?_
        exact gx_iret hC rfl rfl (Or.inr (Or.inl ⟨hE, rfl⟩)) (by show 0 + mc ≤ mc; omega) (by show 0 + ms ≤ ms; omega)
    · refine ⟨18, ⟨[(0, 11, 14, 13)], (0, 11, 18, 41), [(0, 11, 22, 36)], rfl, ?_, rfl, by decide, kL_L_41, by decide +kernel, rfl⟩, g_caught hC rfl (by decide) ?_⟩
      · intro z hz
        obtain rfl := List.mem_singleton.mp hz
        exact ⟨by decide, _, kL_L_13, by decide +kernel⟩
      · refine g_run hC 1 rfl ?_
        exact gx_iret hC rfl rfl (Or.inr (Or.inr (Or.inl ⟨hE, rfl⟩))) (by show 0 + mc ≤ mc; omega) (by show 0 + ms ≤ ms; omega)
    · refine ⟨22, ⟨[(0, 11, 14, 13), (0, 11, 18, 41)], (0, 11, 22, 36), [], rfl, ?_, rfl, by decide, kL_L_36, by decide +kernel, rfl⟩, g_caught hC rfl (by decide) ?_⟩
      · intro z hz
        rcases List.mem_cons.mp hz with rfl | hz
        · exact ⟨by decide, _, kL_L_13, by decide +kernel⟩
        obtain rfl := List.mem_singleton.mp hz
        exact ⟨by decide, _, kL_L_41, by decide +kernel⟩
      · refine g_run hC 1 rfl ?_
        exact gx_iret hC rfl rfl (Or.inr (Or.inr (Or.inr (⟨hE, rfl⟩)))) (by show 0 + mc ≤ mc; omega) (by show 0 + ms ≤ ms; omega)
  · obtain ⟨v, f, rfl, h65⟩ := ho r hp1 hr
    refine g_lst hC 0 rfl (hW.2 65 (by decide)) h65 rfl (by decide) (by decide) ?_
    refine g_run hC 2 rfl ?_
    exact gx_iret hC rfl rfl (Or.inl ⟨v, hp1, f, hr, h65, rfl, rfl⟩) (by show 0 + mc ≤ mc; omega) (by show 0 + ms ≤ ms; omega)
theorem c_L_check (hW : KF ad L) (h0 : hp 0 = kO 2 fs) (hM : KX l yX2_check cX2_check 3 (some .int) (rmK d mc ms) D dA ad sa L [.ref 0] hp post px) (ho : ∀ r hp', post r hp' → ∃ (v : Int32) (f : Nat → Int64), r = some (.int v) ∧ hp' 65 = kJ 1 f) (hx : ∀ E hp', px E hp' → E = ISE) : KH l yL_check cL_check 3 [(0, 8, 11, 13)] (rmK (d + 1) mc ms) D dA ad sa L [.ref 0, .ref 65] hp (fun r hp' => (∃ (v : Int32) (hp1 : Nat → KE) (f : Nat → Int64), post (some (.int v)) hp1 ∧ hp1 65 = kJ 1 f ∧ r = some (.int 0) ∧ hp' = va_up hp1 65 (kJ 1 (va_up f 0 v.toInt64))) ∨ (px ISE hp' ∧ r = some (.int 1))) := by
  refine KH.of rfl ok_L_check (len_of rfl) hW.1.1 hW.1.2 ?_
  intro p e s m args below meth c A hC hN hNC htab
  refine g_run hC 3 rfl ?_
  refine g_callVH hC hN hNC htab [] hM rfl M_L_54 (hW.2 0 (by decide)) h0 rfl rfl (len_of rfl) ⟨Nat.le_refl _, by show 8 + (3 + 11) + 40 * d ≤ 40 * (d + 1); omega⟩ ⟨by show 0 + mc ≤ mc; omega, by show 0 + ms ≤ ms; omega⟩ (fun E hp1 hE => ?_) (fun r hp1 hr => ?_)
  · obtain rfl := hx E hp1 hE
    refine ⟨11, ⟨[], (0, 8, 11, 13), [], rfl, ?_, rfl, by decide, kL_L_13, by decide +kernel, rfl⟩, g_caught_n hC rfl (by decide) ?_⟩
    · intro z hz; cases hz
    · refine g_run hC 1 rfl ?_
      exact gx_iret hC rfl rfl (Or.inr (⟨hE, rfl⟩)) (by show 0 + mc ≤ mc; omega) (by show 0 + ms ≤ ms; omega)
  · obtain ⟨v, f, rfl, h65⟩ := ho r hp1 hr
    refine g_run hC 1 rfl ?_
    refine g_lst hC 0 rfl (hW.2 65 (by decide)) h65 rfl (by decide) (by decide) ?_
    refine g_run hC 2 rfl ?_
    exact gx_iret hC rfl rfl (Or.inl ⟨v, hp1, f, hr, h65, rfl, rfl⟩) (by show 0 + mc ≤ mc; omega) (by show 0 + ms ≤ ms; omega)
theorem c_L_witness (hW : KF ad L) (h0 : hp 0 = kO 2 fs) (hM : KX l yX2_witness cX2_witness 2 (some .int) (rmK d mc ms) D dA ad sa L [.ref 0] hp post px) (ho : ∀ r hp', post r hp' → ∃ (v : Int32) (f : Nat → Int64), r = some (.int v) ∧ hp' 65 = kJ 1 f) (hx : ∀ E hp', px E hp' → E = ISE ∨ E = NSE) : KH l yL_witness cL_witness 3 [(0, 8, 11, 13), (0, 8, 14, 60)] (rmK (d + 1) mc ms) D dA ad sa L [.ref 0, .ref 65] hp (fun r hp' => (∃ (v : Int32) (hp1 : Nat → KE) (f : Nat → Int64), post (some (.int v)) hp1 ∧ hp1 65 = kJ 1 f ∧ r = some (.int 0) ∧ hp' = va_up hp1 65 (kJ 1 (va_up f 0 v.toInt64))) ∨ (px ISE hp' ∧ r = some (.int 1)) ∨ (px NSE hp' ∧ r = some (.int 2))) := by
  refine KH.of rfl ok_L_witness (len_of rfl) hW.1.1 hW.1.2 ?_
  intro p e s m args below meth c A hC hN hNC htab
  refine g_run hC 3 rfl ?_
  refine g_callVH hC hN hNC htab [] hM rfl M_L_57 (hW.2 0 (by decide)) h0 rfl rfl (len_of rfl) ⟨Nat.le_refl _, by show 8 + (2 + 11) + 40 * d ≤ 40 * (d + 1); omega⟩ ⟨by show 0 + mc ≤ mc; omega, by show 0 + ms ≤ ms; omega⟩ (fun E hp1 hE => ?_) (fun r hp1 hr => ?_)
  · rcases hx E hp1 hE with rfl | rfl
    · refine ⟨11, ⟨[], (0, 8, 11, 13), [(0, 8, 14, 60)], rfl, ?_, rfl, by decide, kL_L_13, by decide +kernel, rfl⟩, g_caught_n hC rfl (by decide) ?_⟩
      · intro z hz; cases hz
      · refine g_run hC 1 rfl ?_
        exact gx_iret hC rfl rfl (Or.inr (Or.inl ⟨hE, rfl⟩)) (by show 0 + mc ≤ mc; omega) (by show 0 + ms ≤ ms; omega)
    · refine ⟨14, ⟨[(0, 8, 11, 13)], (0, 8, 14, 60), [], rfl, ?_, rfl, by decide, kL_L_60, by decide +kernel, rfl⟩, g_caught_n hC rfl (by decide) ?_⟩
      · intro z hz
        obtain rfl := List.mem_singleton.mp hz
        exact ⟨by decide, _, kL_L_13, by decide +kernel⟩
      · refine g_run hC 1 rfl ?_
        exact gx_iret hC rfl rfl (Or.inr (Or.inr (⟨hE, rfl⟩))) (by show 0 + mc ≤ mc; omega) (by show 0 + ms ≤ ms; omega)
  · obtain ⟨v, f, rfl, h65⟩ := ho r hp1 hr
    refine g_run hC 1 rfl ?_
    refine g_lst hC 0 rfl (hW.2 65 (by decide)) h65 rfl (by decide) (by decide) ?_
    refine g_run hC 2 rfl ?_
    exact gx_iret hC rfl rfl (Or.inl ⟨v, hp1, f, hr, h65, rfl, rfl⟩) (by show 0 + mc ≤ mc; omega) (by show 0 + ms ≤ ms; omega)
end
end
section
/-! rows of the law's own body: the script is no cell of the world; its reference is the key 66 -/
def LX (ad : Nat → Nat) (A : Nat → Prop) (b N : Nat) (xs : Nat → Int32) (s : State) : Prop := va_X b N xs s s.heap ∧ b < s.heap.size ∧ (¬ A b) ∧ ad 66 = b ∧ N ≤ 2560
def MHK (own : String) (idx : Nat) (y : MethodName) (cc : ByteArray) (maxL : Nat) (hh : List (Nat × Nat × Nat × Nat)) (n : Nat) : Prop :=
  (Cond.methodLink own idx y ∈ WW ∧ Cond.static y ∈ WW ∧ Cond.initialized y.cls ∈ WW ∧ Cond.codeWith y cc maxL (some .int) hh ∈ WW) ∧ (y.cls ≠ "java/lang/invoke/MethodHandle" ∧ y.cls ≠ "java/lang/invoke/VarHandle" ∧ (parseMethodDescriptor y.desc).map (fun d => d.parameters.length) = some n)
theorem goodIn_H {own : String} {idx n maxL : Nat} {y : MethodName} {cc : ByteArray} {hh : List (Nat × Nat × Nat × Nat)} (h : MHK own idx y cc maxL hh n) : GoodIn WW (va_wsS own idx y (Cond.codeWith y cc maxL (some .int) hh :: WW)) := by
  obtain ⟨⟨h1, h2, h3, h4⟩, -⟩ := h
  intro w hw
  have h9 : w ∈ WW := by
    unfold va_wsS at hw
    rcases List.mem_append.mp hw with hw | hw
    · simp only [List.mem_cons, List.not_mem_nil, or_false] at hw
      rcases hw with rfl | rfl | rfl <;> assumption
    · rcases List.mem_cons.mp hw with rfl | hw
      · exact h4
      · exact hw
  exact ⟨h9, good_WW h9⟩
def MIL (own : String) (idx : Nat) (y : MethodName) (cc : ByteArray) (maxL : Nat) : Prop := (Cond.methodLink own idx y ∈ WW ∧ Cond.instanceMethod y ∈ WW ∧ Cond.initialized y.cls ∈ WW ∧ Cond.code y cc maxL none ∈ WW) ∧ y.name = "<init>" ∧ (y.cls ≠ "java/lang/invoke/MethodHandle" ∧ y.cls ≠ "java/lang/invoke/VarHandle" ∧ (parseMethodDescriptor y.desc).map (fun d => d.parameters.length) = some 0)
section
variable {p : Program} {l : Launch} {e : Env} {R : Room} {s : State} {m : MethodId} {args : Array Value} {below : List Frame} {meth : Method} {c : Code} {D : va_G} {dA ad sa : Nat → Nat} {L : List Nat} {A : Nat → Prop} {nL cells slots : Nat} {Q : State → Prop} {hp : Nat → KE} {own : String} {cc : ByteArray} {ret : Option FieldType} {tb : List (Nat × Instr × Nat)}
theorem g_sld (hC : CX p s m args meth c own cc nL ret tb D dA ad L A) {b N : Nat} {xs : Nat → Int32} (hX : LX ad A b N xs s) {pc nx : Nat} {i : Int32} {lv : List (Nat × Value)} {st : List Value} (j : Nat) (hf : fd tb pc = some (.iaload, nx)) (hi : i = nI j) (hj : j < N)
    (kk : G p l e R s m args below meth c D dA ad L A nL cells slots Q hp nx lv (.int (xs j) :: st)) : G p l e R s m args below meth c D dA ad L A nL cells slots Q hp pc lv (.int i :: .ref 66 :: st) := by
  obtain ⟨⟨hx, hb, hml, ho, hts⟩, -, -, htb, hK, -⟩ := hC
  obtain ⟨n9, hd, hnx, hn9⟩ := fd_ok htb hf
  obtain rfl : n9 = 1 := hn9.resolve_left (by simp [ilen])
  subst hnx
  subst hi
  obtain ⟨hX1, hbl, hbA, h66, hN⟩ := hX
  intro H locs ls hP hS hl
  show W p l e R s m args below meth c H locs cells slots Q (F0 m pc ls (.int (nI j) :: .ref (ad 66) :: st.map (em ad)))
  rw [h66]
  refine va_sld hx hb hX1 hbl hbA hS (vp_in_nI hj (by omega)) hd ?_
  rw [nI_clamp (by omega)]
  exact kk H locs ls hP hS hl
theorem g_slen (hC : CX p s m args meth c own cc nL ret tb D dA ad L A) {b N : Nat} {xs : Nat → Int32} (hX : LX ad A b N xs s) {pc nx : Nat} {lv : List (Nat × Value)} {st : List Value} (hf : fd tb pc = some (.arraylength, nx))
    (kk : G p l e R s m args below meth c D dA ad L A nL cells slots Q hp nx lv (.int (nI N) :: st)) : G p l e R s m args below meth c D dA ad L A nL cells slots Q hp pc lv (.ref 66 :: st) := by
  obtain ⟨⟨hx, hb, hml, ho, hts⟩, -, -, htb, hK, -⟩ := hC
  obtain ⟨n9, hd, hnx, hn9⟩ := fd_ok htb hf
  obtain rfl : n9 = 1 := hn9.resolve_left (by simp [ilen])
  subst hnx
  obtain ⟨hX1, hbl, hbA, h66, hN⟩ := hX
  intro H locs ls hP hS hl
  show W p l e R s m args below meth c H locs cells slots Q (F0 m pc ls (.ref (ad 66) :: st.map (em ad)))
  rw [h66]
  exact va_slen hx hb hX1 hbl hbA hS hd (kk H locs ls hP hS hl)
set_option maxHeartbeats 2000000 in
theorem g_callH (hC : CX p s m args meth c own cc nL ret tb D dA ad L A) (hN : NW A sa s s.heap) (hNC : NC s) {pc nx idx maxL2 : Nat} {hh : List (Nat × Nat × Nat × Nat)} {y : MethodName} {bytes : ByteArray} {rm2 : Room} {rest st : List Value} {lv : List (Nat × Value)} {post : Option Value → (Nat → KE) → Prop} (As : List Value) (hM : KH l y bytes maxL2 hh rm2 D dA ad sa L As hp post) (hf : fd tb pc = some (.invokestatic idx, nx)) (hm : MHK own idx y bytes maxL2 hh As.length) (hst : st = As.reverse ++ rest) (hw : (rest.map fun v => v.category).sum ≤ 8) (hR : rm2.frames + 1 ≤ R.frames ∧ 8 + (maxL2 + 11) + rm2.locals ≤ R.locals) (hfc : cells + rm2.cells ≤ R.cells ∧ slots + rm2.slots ≤ R.slots)
    (kk : ∀ (r : Option Value) (hp' : Nat → KE), post r hp' → G p l e R s m args below meth c D dA ad L A nL (cells + rm2.cells) (slots + rm2.slots) Q hp' nx lv (r.toList ++ rest)) : G p l e R s m args below meth c D dA ad L A nL cells slots Q hp pc lv st := by
  have hC0 := hC
  obtain ⟨⟨hx, hb, hml, ho, hts⟩, hr9, hlk, htb, hK, hj1, hnd, hA, hA2⟩ := hC
  obtain ⟨n9, hd, hnx, hn9⟩ := fd_ok htb hf
  obtain rfl : n9 = 3 := hn9.resolve_left (by simp [ilen])
  subst hnx
  subst hst
  intro H locs ls hP hS hl
  have hrun := vx_runSX (e := e) (below := below) (meth := meth) (locs := locs) (cells := cells) (slots := slots) (As := As.map (em ad)) (rest := rest.map (em ad)) (g := F0 m pc ls ((As.reverse ++ rest).map (em ad))) ⟨hx, hb, hml, ho, hts⟩ (hM H.size) (vx_cwSW As.length hts (goodIn_H hm) rfl rfl rfl hm.2 hR) ⟨kPh_blind D dA ad sa L As hp H.size, fun U hU hW => ⟨k_pre hC0 hN hP hS U hU hW, NC.warm hW hNC⟩⟩ rfl (by rw [List.length_map]) hl.1 (by simp) (lv_room (by rw [em_cats]; exact hw)) hd hfc
  refine k_runx hrun hS (kA_sub hA hA2 hS) (kA_sub hA hA2 hS) (fun E hp' H1 locs1 ce q9 hpe hP1 hS1 hce hcv hcl => hpe.elim) (fun r hp' H1 locs1 hpo hP1 hS1 => ?_)
  rw [em_stk]
  exact kk r hp' hpo H1 locs1 ls hP1 hS1 hl
/-- a new cell, keys outside the world kept: M holds what locals and stack name -/
theorem g_growM (hC : CX p s m args meth c own cc nL ret tb D dA ad L A) {k nx : Nat} {x : KE} {M : List Nat} (hk : ¬ k ∈ L) (hkM : ¬ k ∈ M) (hcl : CLO L hp) (hx : rfE (L ++ [k]) x) (hx2 : ∀ a1 a2 : Nat → Nat, emE dA a1 x = emE dA a2 x) {lv : List (Nat × Value)} {st : List Value} (hlv : ∀ q ∈ lv, rfV M q.2) (hst : ∀ v ∈ st, rfV M v) {cells1 slots1 : Nat}
    (kk : ∀ ad2 : Nat → Nat, (∀ j, j ≠ k → ad2 j = ad j) → CX p s m args meth c own cc nL ret tb D dA ad2 (L ++ [k]) A → CLO (L ++ [k]) (va_up hp k x) → G p l e R s m args below meth c D dA ad2 (L ++ [k]) A nL cells1 slots1 Q (va_up hp k x) nx lv (.ref k :: st))
    {q : Nat} {H1 : Heap} {locs : List Loc} {ls : Array Slot} (hP : va_P D kcl (kw dA ad L hp ++ [(q, emE dA ad x)]) H1) (hD : va_D A (kw dA ad L hp ++ [(q, emE dA ad x)])) (hS : va_S A s.heap H1 locs) (hl : lv_has ls nL (emL ad lv)) : W p l e R s m args below meth c H1 locs cells1 slots1 Q (F0 m nx ls (.ref q :: st.map (em ad))) := by
  have h0 : ∀ j, j ≠ k → va_up ad k q j = ad j := fun j hj => va_up_ne _ _ hj
  have h1 : ∀ j ∈ L, va_up ad k q j = ad j := fun j hj => h0 j (fun z => hk (by rw [← z]; exact hj))
  have hM : ∀ j ∈ M, va_up ad k q j = ad j := fun j hj => h0 j (fun z => hkM (by rw [← z]; exact hj))
  rw [hx2 ad (va_up ad k q), ← kw_push hk hcl] at hP hD
  obtain ⟨d1, d2⟩ := D_kinj hD
  obtain ⟨c1, c2, c3, c4, c5, c6, c7, c8, c9⟩ := hC
  have hsub : ∀ j ∈ L, j ∈ L ++ [k] := fun j hj => List.mem_append_left _ hj
  have K := kk (va_up ad k q) h0 ⟨c1, c2, c3, c4, c5, d1, List.nodup_append.mpr ⟨c7, List.nodup_cons.mpr ⟨List.not_mem_nil, List.nodup_nil⟩, fun a ha b hb z => hk (by rw [List.mem_singleton.mp hb] at z; rw [← z]; exact ha)⟩, d2, c9⟩ (fun j hj => by
    by_cases z : j = k
    · subst z; rw [va_up_self]; exact hx
    · rw [va_up_ne _ _ z]
      exact (hcl j ((List.mem_append.mp hj).resolve_right (fun w => z (List.mem_singleton.mp w)))).mono hsub)
  have e1 : emL (va_up ad k q) lv = emL ad lv := List.map_congr_left (fun w hw => by rw [em_ag hM (hlv w hw)])
  have e2 : (Value.ref k :: st).map (em (va_up ad k q)) = .ref q :: st.map (em ad) := by
    rw [List.map_cons, List.map_congr_left (fun v hv => em_ag hM (hst v hv))]
    show Value.ref (va_up ad k q k) :: _ = _
    rw [va_up_self]
  rw [← e2]
  exact K H1 locs ls hP hS (by rw [e1]; exact hl)
theorem g_newM (hC : CX p s m args meth c own cc nL ret tb D dA ad L A) {pc nx idx ci k : Nat} {fs : List Value} {M : List Nat} (hf : fd tb pc = some (.new idx, nx)) (hN : NEW own idx ci fs) (hk : ¬ k ∈ L) (hkM : ¬ k ∈ M) (hcl : CLO L hp) {lv : List (Nat × Value)} {st : List Value} (hlv : ∀ q ∈ lv, rfV M q.2) (hst : ∀ v ∈ st, rfV M v) (hfc : cells + 1 ≤ R.cells ∧ slots + fN ci ≤ R.slots)
    (kk : ∀ ad2 : Nat → Nat, (∀ j, j ≠ k → ad2 j = ad j) → CX p s m args meth c own cc nL ret tb D dA ad2 (L ++ [k]) A → CLO (L ++ [k]) (va_up hp k (kO ci fs)) → G p l e R s m args below meth c D dA ad2 (L ++ [k]) A nL (cells + 1) (slots + fN ci) Q (va_up hp k (kO ci fs)) nx lv (.ref k :: st)) : G p l e R s m args below meth c D dA ad L A nL cells slots Q hp pc lv st := by
  have hC0 := hC
  obtain ⟨⟨hx, hb, hml, ho, hts⟩, -, -, htb, hK, hj1, hnd, hA, hA2⟩ := hC
  obtain ⟨n, hd, hnx, hn⟩ := fd_ok htb hf
  obtain rfl : n = 3 := hn.resolve_left (by simp [ilen])
  subst hnx
  obtain ⟨n1, n2, n3, n4, n5, n6, n7, n8⟩ := hN
  intro H locs ls hP hS hl
  refine va_new (D := D) (C := fC ci) (T := fT ci) (N := fN ci) hx hb hts n5 (ftY ci) n6 ho (hts _ n2) (hts _ n3) (hts _ n4) hK hP (kw_D hj1 hnd hA) hS hA2 n1 n7 hfc.1 hfc.2 hd (fun q H1 hP1 hD1 hS1 => ?_)
  have e1 : ∀ a1 : Nat → Nat, emE dA a1 (kO ci fs) = (.inr (ci, fs) : va_E) := fun a1 => by
    show (.inr (ci, fs.map (em a1)) : va_E) = _
    rw [em_no n8]
  exact g_growM (x := kO ci fs) hC0 hk hkM hcl (fun v hv k9 e9 => absurd e9 (n8 v hv k9)) (fun a1 a2 => (e1 a1).trans (e1 a2).symm) hlv hst kk (by rw [e1]; exact hP1) (by rw [e1]; exact hD1) hS1 hl
theorem g_newaJM (hC : CX p s m args meth c own cc nL ret tb D dA ad L A) {pc nx k N : Nat} {M : List Nat} (hf : fd tb pc = some (.newarray .long, nx)) (hN : N ≤ 100000) (hk : ¬ k ∈ L) (hkM : ¬ k ∈ M) (hcl : CLO L hp) {lv : List (Nat × Value)} {st : List Value} (hlv : ∀ q ∈ lv, rfV M q.2) (hst : ∀ v ∈ st, rfV M v) (hfc : cells + 1 ≤ R.cells ∧ slots + N ≤ R.slots)
    (kk : ∀ ad2 : Nat → Nat, (∀ j, j ≠ k → ad2 j = ad j) → CX p s m args meth c own cc nL ret tb D dA ad2 (L ++ [k]) A → CLO (L ++ [k]) (va_up hp k (kJ N (fun _ => 0))) → G p l e R s m args below meth c D dA ad2 (L ++ [k]) A nL (cells + 1) (slots + N) Q (va_up hp k (kJ N (fun _ => 0))) nx lv (.ref k :: st)) : G p l e R s m args below meth c D dA ad L A nL cells slots Q hp pc lv (.int (nI N) :: st) := by
  have hC0 := hC
  obtain ⟨⟨hx, hb, hml, ho, hts⟩, -, -, htb, hK, hj1, hnd, hA, hA2⟩ := hC
  obtain ⟨n, hd, hnx, hn⟩ := fd_ok htb hf
  obtain rfl : n = 2 := hn.resolve_left (by simp [ilen])
  subst hnx
  intro H locs ls hP hS hl
  refine va_newa (D := D) (atype := .long) (ty := .long) (a0 := (N, .inr (.inl (fun _ => 0)))) hx hb (hts _ aC_long) rfl hK hP (kw_D hj1 hnd hA) hS hA2 (fun _ => rfl) (nI_pos (by omega)) (nI_clamp (by omega)) (by show N * 8 ≤ _; omega) hfc.1 hfc.2 hd (fun q cA H1 hK1 hP1 hD1 hS1 => ?_)
  have e1 : cA = dA 1 := by
    have h1 : s.vm.findClass ("[" ++ FieldType.long.toString) = some (dA 1) := (hK.2 1 _ rfl).2
    have h2 : s.vm.findClass ("[" ++ FieldType.long.toString) = some cA := (hK1.2 4 (cA, .long) rfl).2
    exact Option.some.inj (h2.symm.trans h1)
  subst e1
  exact g_growM (x := kJ N (fun _ => 0)) hC0 hk hkM hcl trivial (fun _ _ => rfl) hlv hst kk hP1 hD1 hS1 hl
set_option maxHeartbeats 2000000 in
theorem g_initM (hC : CX p s m args meth c own cc nL ret tb D dA ad L A) (hN : NW A sa s s.heap) {pc nx idx maxL2 k : Nat} {y : MethodName} {bytes : ByteArray} {rm2 : Room} {rest : List Value} {lv : List (Nat × Value)} {nk M : List Nat} {post : (Nat → KE) → Prop} (hM : KC l y bytes maxL2 rm2 D dA ad sa L [.ref k] hp nk post) (hf : fd tb pc = some (.invokespecial idx, nx)) (hm : MIL own idx y bytes maxL2) (hnk : (L ++ nk).Nodup) (hnM : ∀ j ∈ nk, ¬ j ∈ M) (hlv : ∀ q ∈ lv, rfV M q.2) (hrs : ∀ v ∈ rest, rfV M v) (hw : (rest.map fun v => v.category).sum ≤ 8) (hR : rm2.frames + 1 ≤ R.frames ∧ 8 + (maxL2 + 11) + rm2.locals ≤ R.locals) (hfc : cells + rm2.cells ≤ R.cells ∧ slots + rm2.slots ≤ R.slots)
    (kk : ∀ (ad2 : Nat → Nat) (hp' : Nat → KE), (∀ j, ¬ j ∈ nk → ad2 j = ad j) → CX p s m args meth c own cc nL ret tb D dA ad2 (L ++ nk) A → CLO (L ++ nk) hp' → post hp' → G p l e R s m args below meth c D dA ad2 (L ++ nk) A nL (cells + rm2.cells) (slots + rm2.slots) Q hp' nx lv rest) : G p l e R s m args below meth c D dA ad L A nL cells slots Q hp pc lv (.ref k :: rest) := by
  have hC0 := hC
  obtain ⟨⟨hx, hb, hml, ho, hts⟩, hr9, hlk, htb, hK, hj1, hnd, hA, hA2⟩ := hC
  obtain ⟨n9, hd, hnx, hn9⟩ := fd_ok htb hf
  obtain rfl : n9 = 3 := hn9.resolve_left (by simp [ilen])
  subst hnx
  intro H locs ls hP hS hl
  have hrun := va_runI (e := e) (below := below) (meth := meth) (locs := locs) (cells := cells) (slots := slots) (b := ad k) (As := []) (rest := rest.map (em ad)) (g := F0 m pc ls ((.ref k :: rest).map (em ad))) ⟨hx, hb, hml, ho, hts⟩ (hM H.size) ⟨callB_of 0 hts (goodIn_c hm.1.2.2.2) rfl rfl rfl (hts _ hm.1.2.2.1) (hts _ hm.1.1) hm.2.2 hR, hm.2.1, hts _ hm.1.2.1⟩ ⟨kPc_blind D dA ad sa L [.ref k] hp H.size, k_pre hC0 hN hP hS⟩ rfl rfl hl.1 rfl (lv_room (by rw [em_cats]; exact hw)) hd hfc
  refine k_runC hrun hS (kA_sub hA hA2 hS) (kA_sub hA hA2 hS) (fun ad2 hp' H1 locs1 g1 g2 g3 g4 g5 g6 hS1 => ?_)
  have q1 : ∀ j ∈ L ++ nk, (fun j => if j ∈ L ++ nk then ad2 j else ad j) j = ad2 j := fun j hj => if_pos hj
  have q2 : ∀ j, ¬ j ∈ nk → (fun j => if j ∈ L ++ nk then ad2 j else ad j) j = ad j := fun j hj => by
    show (if j ∈ L ++ nk then ad2 j else ad j) = ad j
    by_cases z : j ∈ L ++ nk
    · rw [if_pos z]
      exact g1 j ((List.mem_append.mp z).resolve_right hj)
    · rw [if_neg z]
  generalize (fun j => if j ∈ L ++ nk then ad2 j else ad j) = ad3 at q1 q2
  have K := kk ad3 hp' q2 ⟨⟨hx, hb, hml, ho, hts⟩, hr9, hlk, htb, hK, fun i hi j hj h => g2 i hi j hj (by rw [← q1 i hi, ← q1 j hj]; exact h), hnk, fun j hj => by rw [q1 j hj]; exact kA_sub hA hA2 hS _ (g3 j hj), hA2⟩ g4 g5
  have qM : ∀ j ∈ M, ad3 j = ad j := fun j hj => q2 j (fun z => hnM j z hj)
  have e1 : emL ad3 lv = emL ad lv := List.map_congr_left (fun w hw => by rw [em_ag qM (hlv w hw)])
  have e2 : rest.map (em ad3) = rest.map (em ad) := List.map_congr_left (fun v hv => em_ag qM (hrs v hv))
  rw [← e2]
  exact K H1 locs1 ls (by rw [kw_ag q1 g4]; exact g6) hS1 (by rw [e1]; exact hl)
end
end
section
/-! what holds between two calls of the law -/
def BI (n inp an li : Nat) (cl : Nat → Int64) (pr : Nat → Nat → Int64) (gt : Nat → GT) (ki fi se tr : Nat → Int32) (si st : Nat → Nat) (nu : Nat → Int64) : Prop :=
  XG n inp gt ∧ MGs n inp gt ki fi se tr ∧ supp cl n ∧ cnt cl ≤ an ∧ an ≤ 40 ∧ (∀ k, k < li → LN n si st nu k (pr k) ∧ supp (pr k) n) ∧ (¬ li = 0 → li = ngN inp n + 1 ∧ ∀ j, j ≤ ngN inp n → cnt (rwsK inp n gt cl j) ≤ 40)
def FIN (kc : Nat) (v : Int64) (hp : Nat → KE) : Prop := ∃ (n inp an li : Nat) (cl ex : Nat → Int64) (pr : Nat → Nat → Int64) (gt : Nat → GT) (ki fi se tr : Nat → Int32) (si st : Nat → Nat) (nu wo fr f : Nat → Int64), XR hp n inp an li cl ex pr gt ∧ MR hp kc n an li ki fi se tr cl si st nu wo fr ∧ hp 65 = kJ 1 f ∧ BI n inp an li cl pr gt ki fi se tr si st nu ∧ (kc = 0 → f 0 = v)
def INV (hp : Nat → KE) : Prop := ∃ (n inp an li th : Nat) (cl ex : Nat → Int64) (pr : Nat → Nat → Int64) (gt : Nat → GT) (ki fi se tr : Nat → Int32) (si st : Nat → Nat) (nu wo fr f : Nat → Int64), XR hp n inp an li cl ex pr gt ∧ MR hp th n an li ki fi se tr cl si st nu wo fr ∧ hp 65 = kJ 1 f ∧ BI n inp an li cl pr gt ki fi se tr si st nu
section
variable {hp hp2 : Nat → KE} {n inp an li th : Nat} {cl ex : Nat → Int64} {pr : Nat → Nat → Int64} {gt : Nat → GT} {ki fi se tr : Nat → Int32} {si st : Nat → Nat} {nu wo fr f : Nat → Int64} {v : Int64}
theorem mkfin (h : XR hp n inp an li cl ex pr gt) (hm : MR hp th n an li ki fi se tr cl si st nu wo fr) (h65 : hp 65 = kJ 1 f) (hB : BI n inp an li cl pr gt ki fi se tr si st nu) (hv : th = 0 → f 0 = v) : FIN th v hp := ⟨n, inp, an, li, cl, ex, pr, gt, ki, fi, se, tr, si, st, nu, wo, fr, f, h, hm, h65, hB, hv⟩
theorem mkinv (h : XR hp n inp an li cl ex pr gt) (hm : MR hp th n an li ki fi se tr cl si st nu wo fr) (h65 : hp 65 = kJ 1 f) (hB : BI n inp an li cl pr gt ki fi se tr si st nu) : INV hp := ⟨n, inp, an, li, th, cl, ex, pr, gt, ki, fi, se, tr, si, st, nu, wo, fr, f, h, hm, h65, hB⟩
theorem FIN.inv (h : FIN th v hp) : INV hp := by
  obtain ⟨n, inp, an, li, cl, ex, pr, gt, ki, fi, se, tr, si, st, nu, wo, fr, f, h1, h2, h3, h4, -⟩ := h
  exact mkinv h1 h2 h3 h4
theorem XR.lo (h : XR hp n inp an li cl ex pr gt) (hF : ∀ k, k < 54 → hp2 k = hp k) : XR hp2 n inp an li cl ex pr gt :=
  ⟨(hF _ (by omega)).trans h.1, (hF _ (by omega)).trans h.2.1, (hF _ (by omega)).trans h.2.2.1, ⟨(hF _ (by omega)).trans h.2.2.2.1.1, (hF _ (by omega)).trans h.2.2.2.1.2⟩, ⟨(hF _ (by omega)).trans h.2.2.2.2.1.1, (hF _ (by omega)).trans h.2.2.2.2.1.2⟩, fun i hi => ⟨(hF _ (by omega)).trans (h.2.2.2.2.2.1 i hi).1, (hF _ (by omega)).trans (h.2.2.2.2.2.1 i hi).2⟩, fun i hi => ⟨(hF _ (by omega)).trans (h.2.2.2.2.2.2 i hi).1, (hF _ (by omega)).trans (h.2.2.2.2.2.2 i hi).2.1, (hF _ (by omega)).trans (h.2.2.2.2.2.2 i hi).2.2⟩⟩
theorem XR.fm (h : XR hp n inp an li cl ex pr gt) (hF : FM hp hp2) : XR hp2 n inp an li cl ex pr gt := h.lo (fun k hk => hF k (Or.inl hk))
theorem XR.out {x : KE} (h : XR hp n inp an li cl ex pr gt) : XR (va_up hp 65 x) n inp an li cl ex pr gt := h.lo (fun k hk => va_up_ne _ _ (by omega))
theorem MR.fw (h : MR hp th n an li ki fi se tr cl si st nu wo fr) (hF : ∀ k, 54 ≤ k → k < 65 → hp2 k = hp k) : MR hp2 th n an li ki fi se tr cl si st nu wo fr :=
  ⟨(hF _ (by omega) (by omega)).trans h.1, (hF _ (by omega) (by omega)).trans h.2.1, (hF _ (by omega) (by omega)).trans h.2.2.1, (hF _ (by omega) (by omega)).trans h.2.2.2.1, (hF _ (by omega) (by omega)).trans h.2.2.2.2.1, (hF _ (by omega) (by omega)).trans h.2.2.2.2.2.1, (hF _ (by omega) (by omega)).trans h.2.2.2.2.2.2.1, (hF _ (by omega) (by omega)).trans h.2.2.2.2.2.2.2.1, (hF _ (by omega) (by omega)).trans h.2.2.2.2.2.2.2.2.1, (hF _ (by omega) (by omega)).trans h.2.2.2.2.2.2.2.2.2.1, (hF _ (by omega) (by omega)).trans h.2.2.2.2.2.2.2.2.2.2⟩
theorem MR.fx (h : MR hp th n an li ki fi se tr cl si st nu wo fr) (hF : FX hp hp2) : MR hp2 th n an li ki fi se tr cl si st nu wo fr := h.fw (fun k h1 _ => hF k h1)
theorem MR.out {x : KE} (h : MR hp th n an li ki fi se tr cl si st nu wo fr) : MR (va_up hp 65 x) th n an li ki fi se tr cl si st nu wo fr := h.fw (fun k _ h2 => va_up_ne _ _ (by omega))
theorem FM.o65 {x : KE} (hF : FM hp hp2) (h : hp 65 = x) : hp2 65 = x := (hF 65 (Or.inr (by omega))).trans h
theorem BI.li10 (h : BI n inp an li cl pr gt ki fi se tr si st nu) : li ≤ 10 := by
  obtain ⟨h1, -, -, -, -, -, h7⟩ := h
  by_cases z : li = 0
  · omega
  · have := (h7 z).1
    have := ngN_le inp n
    have := h1.1
    omega
theorem tbk {i n : Nat} (h : i < 2 ^ n) : i.testBit n = false := Nat.testBit_lt_two_pow h
theorem BI.input (h : BI n inp an li cl pr gt ki fi se tr si st nu) (hn : n < 9) : BI (n + 1) (inp ||| 2 ^ n) an 0 cl pr gt (va_up ki (n + 1) (cI (-1))) fi se tr si st nu := by
  obtain ⟨⟨a1, a2, a3⟩, h2, h3, h4, h5, -, -⟩ := h
  have hp : 2 ^ (n + 1) = 2 ^ n * 2 := Nat.pow_succ 2 n
  have e : ∀ i, i < n → ((inp ||| 2 ^ n) &&& 2 ^ i = 0 ↔ inp &&& 2 ^ i = 0) := fun i hi => by
    rw [and_tp, and_tp, Nat.testBit_or, Nat.testBit_two_pow, decide_eq_false (by omega), Bool.or_false]
  have e2 : ¬ (inp ||| 2 ^ n) &&& 2 ^ n = 0 := by
    rw [and_tp, Nat.testBit_or, Nat.testBit_two_pow, decide_eq_true rfl, Bool.or_true]
    decide
  refine ⟨⟨by omega, Nat.or_lt_two_pow (Nat.lt_of_lt_of_le a2 (by omega)) (by have := Nat.two_pow_pos n; omega), fun i hi h0 => ?_⟩, fun i hi => ⟨fun h0 => ?_, fun h0 => ?_⟩, fun s hs => h3 s (by omega), h4, h5, fun k hk => absurd hk (Nat.not_lt_zero k), fun z => absurd rfl z⟩
  · by_cases z : i = n
    · subst z; exact absurd h0 e2
    · exact a3 i (by omega) ((e i (by omega)).mp h0)
  · by_cases z : i = n
    · subst z; exact absurd h0 e2
    · obtain ⟨b1, b2, b3, b4⟩ := (h2 i (by omega)).1 ((e i (by omega)).mp h0)
      exact ⟨(va_up_ne _ _ (by omega)).trans b1, b2, b3, b4⟩
  · by_cases z : i = n
    · subst z; exact va_up_self _ _ _
    · exact (va_up_ne _ _ (by omega)).trans ((h2 i (by omega)).2 (fun z2 => h0 ((e i (by omega)).mpr z2)))
theorem BI.gate {k a1 b1 c1 : Nat} {x a b d : Int32} (h : BI n inp an li cl pr gt ki fi se tr si st nu) (hn : n < 9) (hk : k < 4) (ha : a1 < 2 * n + 2) (hb : b1 < 2 * n + 2) (hc : c1 < 2 * n + 2) (ex : x = nI k) (ea : a = nI a1) (eb : b = nI b1) (ed : 2 ≤ k → d = nI c1) : BI (n + 1) inp an 0 cl pr (va_up gt n (k, a1, b1, c1, gV a1 b1 c1, gT k a1 b1 c1)) (va_up ki (n + 1) x) (va_up fi (n + 1) a) (va_up se (n + 1) b) (va_up tr (n + 1) d) si st nu := by
  obtain ⟨⟨a0, a2, a3⟩, h2, h3, h4, h5, -, -⟩ := h
  have hp : 2 ^ (n + 1) = 2 ^ n * 2 := Nat.pow_succ 2 n
  have hz : inp &&& 2 ^ n = 0 := (and_tp _ _).mpr (tbk a2)
  refine ⟨⟨by omega, by omega, fun i hi h0 => ?_⟩, fun i hi => ⟨fun h0 => ?_, fun h0 => ?_⟩, fun s hs => h3 s (by omega), h4, h5, fun k hk => absurd hk (Nat.not_lt_zero k), fun z => absurd rfl z⟩
  · by_cases z : i = n
    · subst z; rw [va_up_self]; exact ⟨hk, ha, hb, hc, rfl, rfl⟩
    · rw [va_up_ne _ _ z]; exact a3 i (by omega) h0
  · by_cases z : i = n
    · subst z; rw [va_up_self]; exact ⟨(va_up_self _ _ _).trans ex, (va_up_self _ _ _).trans ea, (va_up_self _ _ _).trans eb, fun q => (va_up_self _ _ _).trans (ed q)⟩
    · obtain ⟨q1, q2, q3, q4⟩ := (h2 i (by omega)).1 h0
      rw [va_up_ne _ _ z]
      exact ⟨(va_up_ne _ _ (by omega)).trans q1, (va_up_ne _ _ (by omega)).trans q2, (va_up_ne _ _ (by omega)).trans q3, fun q => (va_up_ne _ _ (by omega)).trans (q4 q)⟩
  · by_cases z : i = n
    · subst z; exact absurd hz h0
    · exact (va_up_ne _ _ (by omega)).trans ((h2 i (by omega)).2 h0)
theorem BI.add {k : Nat} {w : Int64} (h : BI n inp an li cl pr gt ki fi se tr si st nu) (hk : k < 2 ^ n) (ha : an < 40) : BI n inp (an + 1) 0 (inc cl k w) pr gt ki fi se tr si st nu := by
  obtain ⟨h1, h2, h3, h4, h5, -, -⟩ := h
  have hc := cnt_up (f := cl) (k := k) (v := cl k + w) (Nat.lt_of_lt_of_le hk (p2_lt h1.1))
  refine ⟨h1, h2, supp_inc h3 hk, ?_, by omega, fun k hk => absurd hk (Nat.not_lt_zero k), fun z => absurd rfl z⟩
  show cnt (va_up cl k (cl k + w)) ≤ an + 1
  split at hc <;> split at hc <;> omega
theorem BI.prove {pr2 : Nat → Nat → Int64} {si2 st2 : Nat → Nat} {nu2 : Nat → Int64} (h : BI n inp an li cl pr gt ki fi se tr si st nu) (h40 : ∀ j, j ≤ ngN inp n → cnt (rwsK inp n gt cl j) ≤ 40) (hL : ∀ j, j ≤ ngN inp n → LN n si2 st2 nu2 j (rwsK inp n gt cl j)) (hp : ∀ j, j ≤ ngN inp n → pr2 j = rwsK inp n gt cl j) : BI n inp an (ngN inp n + 1) cl pr2 gt ki fi se tr si2 st2 nu2 := by
  obtain ⟨h1, h2, h3, h4, h5, -, -⟩ := h
  refine ⟨h1, h2, h3, h4, h5, fun k hk => ?_, fun _ => ⟨rfl, h40⟩⟩
  rw [hp k (by omega)]
  exact ⟨hL k (by omega), rws_supp h1.2.2 h3 (by omega)⟩
theorem BI.spoil {pr2 : Nat → Nat → Int64} {si2 st2 : Nat → Nat} {nu2 : Nat → Int64} {k i : Nat} {w : Int64} (h : BI n inp an li cl pr gt ki fi se tr si st nu) (hi : i < 2 ^ n) (hL : LN n si2 st2 nu2 k (va_up (pr k) i w)) (hO : OL si st nu si2 st2 nu2 k) : BI n inp an li cl (va_up pr k (va_up (pr k) i w)) gt ki fi se tr si2 st2 nu2 := by
  obtain ⟨h1, h2, h3, h4, h5, h6, h7⟩ := h
  refine ⟨h1, h2, h3, h4, h5, fun q hq => ?_, h7⟩
  by_cases z : q = k
  · subst z; rw [va_up_self]; exact ⟨hL, supp_up (h6 q hq).2 hi⟩
  · rw [va_up_ne _ _ z]; exact ⟨hO.ln z (h6 q hq).1, (h6 q hq).2⟩
theorem BI.noline {pr2 : Nat → Nat → Int64} (h : BI n inp an 0 cl pr gt ki fi se tr si st nu) : BI n inp an 0 cl pr2 gt ki fi se tr si st nu := by
  obtain ⟨h1, h2, h3, h4, h5, -, -⟩ := h
  exact ⟨h1, h2, h3, h4, h5, fun k hk => absurd hk (Nat.not_lt_zero k), fun z => absurd rfl z⟩
theorem BI.clear : BI 0 0 0 0 (fun _ => 0) pr gt ki fi se tr si st nu := ⟨⟨by decide, by decide, fun i hi => absurd hi (Nat.not_lt_zero i)⟩, fun i hi => absurd hi (Nat.not_lt_zero i), fun _ _ => rfl, by rw [cnt0]; exact Nat.le_refl 0, by decide, fun k hk => absurd hk (Nat.not_lt_zero k), fun z => absurd rfl z⟩
end
end
section
theorem nI_iq {a b : Nat} (h : nI a = nI b) (ha : a < 2 ^ 31) (hb : b < 2 ^ 31) : a = b := by
  have h1 := congrArg Int32.toInt h
  rw [nI_toInt ha, nI_toInt hb] at h1
  omega
theorem i64_z {z : Int32} (h : z.toInt64 = 0) : z = 0 := by
  have h1 := congrArg Int64.toInt h
  rw [Int32.toInt_toInt64] at h1
  exact Int32.toInt_inj.mp h1
theorem lack_ok {li k : Nat} {x : Int32} (hl : li ≤ 10) (hk : k < li) (hx : x = nI k) : lackN li x = 0 := by
  unfold lackN
  rw [if_neg (by omega), if_pos ((lineB_iff hl).mpr ⟨k, hk, hx⟩)]
theorem lack_1 {li : Nat} {x : Int32} (h : li = 0) : lackN li x = 1 := if_pos h
theorem lack_2 {li : Nat} {x : Int32} (h : ¬ li = 0 ∧ lineB li x = false) : lackN li x = 2 := by
  unfold lackN
  rw [if_neg h.1, h.2]
  rfl
theorem lineX_ISE {li : Nat} {x : Int32} (h : lineX li x ISE) : li = 0 := by
  rcases h with ⟨h, -⟩ | ⟨-, -, h⟩
  · exact h
  · exact absurd h (by decide +kernel)
theorem lineX_IOB {li : Nat} {x : Int32} (h : lineX li x IOB) : ¬ li = 0 ∧ lineB li x = false := by
  rcases h with ⟨-, h⟩ | ⟨h, h2, -⟩
  · exact absurd h (by decide +kernel)
  · exact ⟨h, h2⟩
theorem lineX_AEX {li : Nat} {x : Int32} (h : lineX li x AEX) : False := by
  rcases h with ⟨-, h⟩ | ⟨-, -, h⟩
  · exact absurd h (by decide +kernel)
  · exact absurd h (by decide +kernel)
theorem vsN_supp {f : Nat → Int64} {n p : Nat} (hf : supp f n) : ∀ {N : Nat}, 2 ^ n ≤ N → vsN f p N = vsN f p (2 ^ n)
  | 0, h => by rw [Nat.le_zero.mp h]
  | N + 1, h => by
    by_cases e : 2 ^ n = N + 1
    · rw [e]
    · simp only [vsN]
      rw [hf N (by omega), Int64.add_zero, ite_self]
      exact vsN_supp hf (by omega)
section
variable {hp : Nat → KE} {n inp an li th : Nat} {cl ex f0 : Nat → Int64} {pr : Nat → Nat → Int64} {gt : Nat → GT} {ki fi se tr : Nat → Int32} {si st : Nat → Nat} {nu wo fr : Nat → Int64}
theorem t_input (h : XR hp n inp an li cl ex pr gt) (hm : MR hp th n an li ki fi se tr cl si st nu wo fr) (h65 : hp 65 = kJ 1 f0) (hB : BI n inp an li cl pr gt ki fi se tr si st nu) {r1 : Option Value} {hpw : Nat → KE} (hw : (∃ (v : Int32) (hp1 : Nat → KE) (f : Nat → Int64), (fun (r : Option Value) (hp' : Nat → KE) => n < 9 ∧ r = some (.int (nI (n + 1))) ∧ XR hp' (n + 1) (inp ||| 2 ^ n) an 0 cl ex pr gt ∧ FX hp hp') (some (.int v)) hp1 ∧ hp1 65 = kJ 1 f ∧ r1 = some (.int 0) ∧ hpw = va_up hp1 65 (kJ 1 (va_up f 0 v.toInt64))) ∨ ((fun (E : String) (hp' : Nat → KE) => n = 9 ∧ E = ISE ∧ hp' = hp) ISE hpw ∧ r1 = some (.int 1))) : ∃ kc, kc ≤ 3 ∧ r1 = some (.int (nI kc)) ∧ MR hpw th n an li ki fi se tr cl si st nu wo fr ∧ ∀ (r2 : Option Value) (hp2 : Nat → KE), (let hp := hpw; (fun (r : Option Value) (hp' : Nat → KE) => ((n = 9 ∧ (∃ v, r = some (.int v)) ∧ MR hp' 1 n an li ki fi se tr cl si st nu wo fr) ∨ (n < 9 ∧ r = some (.int (nI (n + 1))) ∧ MR hp' 0 (n + 1) an 0 (va_up ki (n + 1) (cI (-1))) fi se tr cl si st nu wo fr)) ∧ FM hp hp') r2 hp2) → ∃ v : Int32, r2 = some (.int v) ∧ FIN kc v.toInt64 hp2 := by
  rcases hw with ⟨v, hpa, f, ⟨hn, hv, hX, hF⟩, hf, rfl, rfl⟩ | ⟨⟨h9, -, rfl⟩, rfl⟩
  · cases hv
    refine ⟨0, by decide, rfl, (hm.fx hF).out, ?_⟩
    rintro r2 hp2 ⟨⟨h9, -, -⟩ | ⟨-, rfl, hM⟩, hFM⟩
    · omega
    · exact ⟨_, rfl, mkfin (hX.out.fm hFM) hM (hFM.o65 (va_up_self _ _ _)) (hB.input hn) (fun _ => va_up_self _ _ _)⟩
  · refine ⟨1, by decide, rfl, hm, ?_⟩
    rintro r2 hp2 ⟨⟨-, ⟨v, rfl⟩, hM⟩ | ⟨h8, -, -⟩, hFM⟩
    · exact ⟨_, rfl, mkfin (h.fm hFM) hM (hFM.o65 h65) hB (fun z => absurd z (by decide))⟩
    · omega
theorem t_gate {x a b d : Int32} (h : XR hp n inp an li cl ex pr gt) (hm : MR hp th n an li ki fi se tr cl si st nu wo fr) (h65 : hp 65 = kJ 1 f0) (hB : BI n inp an li cl pr gt ki fi se tr si st nu) {r1 : Option Value} {hpw : Nat → KE} (hw : (∃ (v : Int32) (hp1 : Nat → KE) (f : Nat → Int64), (fun (r : Option Value) (hp' : Nat → KE) => gateB n x a b d = true ∧ n < 9 ∧ r = some (.int (nI (n + 1))) ∧ ∃ k a1 b1 c1, k < 4 ∧ a1 < 2 * n + 2 ∧ b1 < 2 * n + 2 ∧ c1 < 2 * n + 2 ∧ x = nI k ∧ a = nI a1 ∧ b = nI b1 ∧ (2 ≤ k → d = nI c1) ∧ XR hp' (n + 1) inp an 0 cl ex pr (va_up gt n (k, a1, b1, c1, gV a1 b1 c1, gT k a1 b1 c1)) ∧ FX hp hp') (some (.int v)) hp1 ∧ hp1 65 = kJ 1 f ∧ r1 = some (.int 0) ∧ hpw = va_up hp1 65 (kJ 1 (va_up f 0 v.toInt64))) ∨ ((fun (E : String) (hp' : Nat → KE) => ((gateB n x a b d = false ∧ E = IAE) ∨ (gateB n x a b d = true ∧ n = 9 ∧ E = ISE)) ∧ hp' = hp) IAE hpw ∧ r1 = some (.int 1)) ∨ ((fun (E : String) (hp' : Nat → KE) => ((gateB n x a b d = false ∧ E = IAE) ∨ (gateB n x a b d = true ∧ n = 9 ∧ E = ISE)) ∧ hp' = hp) ISE hpw ∧ r1 = some (.int 2))) : ∃ kc, kc ≤ 3 ∧ r1 = some (.int (nI kc)) ∧ MR hpw th n an li ki fi se tr cl si st nu wo fr ∧ ∀ (r2 : Option Value) (hp2 : Nat → KE), (let hp := hpw; (fun (r : Option Value) (hp' : Nat → KE) => ((gateB n x a b d = false ∧ (∃ v, r = some (.int v)) ∧ MR hp' 1 n an li ki fi se tr cl si st nu wo fr) ∨ (gateB n x a b d = true ∧ n = 9 ∧ (∃ v, r = some (.int v)) ∧ MR hp' 2 n an li ki fi se tr cl si st nu wo fr) ∨ (gateB n x a b d = true ∧ n < 9 ∧ r = some (.int (nI (n + 1))) ∧ MR hp' 0 (n + 1) an 0 (va_up ki (n + 1) x) (va_up fi (n + 1) a) (va_up se (n + 1) b) (va_up tr (n + 1) d) cl si st nu wo fr)) ∧ FM hp hp') r2 hp2) → ∃ v : Int32, r2 = some (.int v) ∧ FIN kc v.toInt64 hp2 := by
  rcases hw with ⟨v, hpa, f, ⟨hg, hn, hv, k, a1, b1, c1, hk, ha1, hb1, hc1, ex9, ea, eb, ed, hX, hF⟩, hf, rfl, rfl⟩ | ⟨⟨hc, rfl⟩, rfl⟩ | ⟨⟨hc, rfl⟩, rfl⟩
  · cases hv
    refine ⟨0, by decide, rfl, (hm.fx hF).out, ?_⟩
    rintro r2 hp2 ⟨⟨h9, -, -⟩ | ⟨-, h9, -, -⟩ | ⟨-, -, rfl, hM⟩, hFM⟩
    · rw [hg] at h9; cases h9
    · omega
    · exact ⟨_, rfl, mkfin (hX.out.fm hFM) hM (hFM.o65 (va_up_self _ _ _)) (hB.gate hn hk ha1 hb1 hc1 ex9 ea eb ed) (fun _ => va_up_self _ _ _)⟩
  · have hc1 : gateB n x a b d = false := by
      rcases hc with ⟨q, -⟩ | ⟨-, -, q⟩
      · exact q
      · exact absurd q (by decide +kernel)
    refine ⟨1, by decide, rfl, hm, ?_⟩
    rintro r2 hp2 ⟨⟨-, ⟨v, rfl⟩, hM⟩ | ⟨h9, -⟩ | ⟨h9, -⟩, hFM⟩
    · exact ⟨_, rfl, mkfin (h.fm hFM) hM (hFM.o65 h65) hB (fun z => absurd z (by decide))⟩
    · rw [hc1] at h9; cases h9
    · rw [hc1] at h9; cases h9
  · obtain ⟨hc1, hc2⟩ : gateB n x a b d = true ∧ n = 9 := by
      rcases hc with ⟨-, q⟩ | ⟨q, q2, -⟩
      · exact absurd q (by decide +kernel)
      · exact ⟨q, q2⟩
    refine ⟨2, by decide, rfl, hm, ?_⟩
    rintro r2 hp2 ⟨⟨h9, -⟩ | ⟨-, -, ⟨v, rfl⟩, hM⟩ | ⟨-, h9, -⟩, hFM⟩
    · rw [hc1] at h9; cases h9
    · exact ⟨_, rfl, mkfin (h.fm hFM) hM (hFM.o65 h65) hB (fun z => absurd z (by decide))⟩
    · omega
theorem t_add {x y : Int32} (h : XR hp n inp an li cl ex pr gt) (hm : MR hp th n an li ki fi se tr cl si st nu wo fr) (h65 : hp 65 = kJ 1 f0) (hB : BI n inp an li cl pr gt ki fi se tr si st nu) {r1 : Option Value} {hpw : Nat → KE} (hw : (∃ (v : Int32) (hp1 : Nat → KE) (f : Nat → Int64), (fun (r : Option Value) (hp' : Nat → KE) => ∃ k, k < 2 ^ n ∧ x = nI k ∧ an < 40 ∧ r = some (.int (nI (an + 1))) ∧ XR hp' n inp (an + 1) 0 (inc cl k y.toInt64) ex pr gt ∧ FX hp hp') (some (.int v)) hp1 ∧ hp1 65 = kJ 1 f ∧ r1 = some (.int 0) ∧ hpw = va_up hp1 65 (kJ 1 (va_up f 0 v.toInt64))) ∨ ((fun (E : String) (hp' : Nat → KE) => ((setB n x = false ∧ E = IAE) ∨ (setB n x = true ∧ an = 40 ∧ E = ISE)) ∧ hp' = hp) IAE hpw ∧ r1 = some (.int 1)) ∨ ((fun (E : String) (hp' : Nat → KE) => ((setB n x = false ∧ E = IAE) ∨ (setB n x = true ∧ an = 40 ∧ E = ISE)) ∧ hp' = hp) ISE hpw ∧ r1 = some (.int 2))) : ∃ kc, kc ≤ 3 ∧ r1 = some (.int (nI kc)) ∧ MR hpw th n an li ki fi se tr cl si st nu wo fr ∧ ∀ (r2 : Option Value) (hp2 : Nat → KE), (let hp := hpw; (fun (r : Option Value) (hp' : Nat → KE) => ((setB n x = false ∧ (∃ v, r = some (.int v)) ∧ MR hp' 1 n an li ki fi se tr cl si st nu wo fr) ∨ (setB n x = true ∧ an = 40 ∧ (∃ v, r = some (.int v)) ∧ MR hp' 2 n an li ki fi se tr cl si st nu wo fr) ∨ (∃ k, k < 2 ^ n ∧ x = nI k ∧ an < 40 ∧ r = some (.int (nI (an + 1))) ∧ MR hp' 0 n (an + 1) 0 ki fi se tr (inc cl k y.toInt64) si st nu wo fr)) ∧ FM hp hp') r2 hp2) → ∃ v : Int32, r2 = some (.int v) ∧ FIN kc v.toInt64 hp2 := by
  have hn9 := hB.1.1
  rcases hw with ⟨v, hpa, f, ⟨k, hk, rfl, han, hv, hX, hF⟩, hf, rfl, rfl⟩ | ⟨⟨hc, rfl⟩, rfl⟩ | ⟨⟨hc, rfl⟩, rfl⟩
  · cases hv
    refine ⟨0, by decide, rfl, (hm.fx hF).out, ?_⟩
    have hs : setB n (nI k) = true := (setB_iff hn9).mpr ⟨k, hk, rfl⟩
    rintro r2 hp2 ⟨⟨h9, -, -⟩ | ⟨-, h9, -, -⟩ | ⟨k2, hk2, e2, -, rfl, hM⟩, hFM⟩
    · rw [hs] at h9; cases h9
    · omega
    · have h5 := p2_lt hn9
      obtain rfl := nI_iq e2 (by omega) (by omega)
      exact ⟨_, rfl, mkfin (hX.out.fm hFM) hM (hFM.o65 (va_up_self _ _ _)) (hB.add hk han) (fun _ => va_up_self _ _ _)⟩
  · have hc1 : setB n x = false := by
      rcases hc with ⟨q, -⟩ | ⟨-, -, q⟩
      · exact q
      · exact absurd q (by decide +kernel)
    refine ⟨1, by decide, rfl, hm, ?_⟩
    rintro r2 hp2 ⟨⟨-, ⟨v, rfl⟩, hM⟩ | ⟨h9, -⟩ | ⟨k, hk, e, -⟩, hFM⟩
    · exact ⟨_, rfl, mkfin (h.fm hFM) hM (hFM.o65 h65) hB (fun z => absurd z (by decide))⟩
    · rw [hc1] at h9; cases h9
    · rw [(setB_iff hn9).mpr ⟨k, hk, e⟩] at hc1; cases hc1
  · obtain ⟨hc1, hc2⟩ : setB n x = true ∧ an = 40 := by
      rcases hc with ⟨-, q⟩ | ⟨q, q2, -⟩
      · exact absurd q (by decide +kernel)
      · exact ⟨q, q2⟩
    refine ⟨2, by decide, rfl, hm, ?_⟩
    rintro r2 hp2 ⟨⟨h9, -⟩ | ⟨-, -, ⟨v, rfl⟩, hM⟩ | ⟨k, hk, e, h9, -⟩, hFM⟩
    · rw [hc1] at h9; cases h9
    · exact ⟨_, rfl, mkfin (h.fm hFM) hM (hFM.o65 h65) hB (fun z => absurd z (by decide))⟩
    · omega
theorem t_simulate {x : Int32} (h : XR hp n inp an li cl ex pr gt) (hm : MR hp th n an li ki fi se tr cl si st nu wo fr) (h65 : hp 65 = kJ 1 f0) (hB : BI n inp an li cl pr gt ki fi se tr si st nu) {r1 : Option Value} {hpw : Nat → KE} (hw : (∃ (v : Int32) (hp1 : Nat → KE) (f : Nat → Int64), (fun (r : Option Value) (hp' : Nat → KE) => ∃ o, o < 512 ∧ o &&& inp = o ∧ x = nI o ∧ r = some (.int (nI (simN inp gt o n))) ∧ hp' = hp) (some (.int v)) hp1 ∧ hp1 65 = kJ 1 f ∧ r1 = some (.int 0) ∧ hpw = va_up hp1 65 (kJ 1 (va_up f 0 v.toInt64))) ∨ ((fun (E : String) (hp' : Nat → KE) => ¬ (∃ o, o < 512 ∧ o &&& inp = o ∧ x = nI o) ∧ E = IAE ∧ hp' = hp) IAE hpw ∧ r1 = some (.int 1))) : ∃ kc, kc ≤ 3 ∧ r1 = some (.int (nI kc)) ∧ MR hpw th n an li ki fi se tr cl si st nu wo fr ∧ ∀ (r2 : Option Value) (hp2 : Nat → KE), (let hp := hpw; (fun (r : Option Value) (hp' : Nat → KE) => ((∃ o, o < 512 ∧ o &&& inp = o ∧ x = nI o ∧ r = some (.int (nI (simN inp gt o n))) ∧ MR hp' 0 n an li ki fi se tr cl si st nu wo fr) ∨ (¬ inpOK inp x ∧ (∃ v, r = some (.int v)) ∧ MR hp' 1 n an li ki fi se tr cl si st nu wo fr)) ∧ FM hp hp') r2 hp2) → ∃ v : Int32, r2 = some (.int v) ∧ FIN kc v.toInt64 hp2 := by
  rcases hw with ⟨v, hpa, f, ⟨o, ho, hoi, rfl, hv, rfl⟩, hf, rfl, rfl⟩ | ⟨⟨hno, -, rfl⟩, rfl⟩
  · cases hv
    refine ⟨0, by decide, rfl, hm.out, ?_⟩
    rintro r2 hp2 ⟨⟨o2, ho2, hoi2, e2, rfl, hM⟩ | ⟨h9, -⟩, hFM⟩
    · obtain rfl := nI_iq e2 (by omega) (by omega)
      exact ⟨_, rfl, mkfin (h.out.fm hFM) hM (hFM.o65 (va_up_self _ _ _)) hB (fun _ => va_up_self _ _ _)⟩
    · exact absurd ⟨o, ho, hoi, rfl⟩ h9
  · refine ⟨1, by decide, rfl, hm, ?_⟩
    rintro r2 hp2 ⟨⟨o2, ho2, hoi2, e2, -⟩ | ⟨-, ⟨v, rfl⟩, hM⟩, hFM⟩
    · exact absurd ⟨o2, ho2, hoi2, e2⟩ hno
    · exact ⟨_, rfl, mkfin (h.fm hFM) hM (hFM.o65 h65) hB (fun z => absurd z (by decide))⟩
theorem t_evaluate {x : Int32} (h : XR hp n inp an li cl ex pr gt) (hm : MR hp th n an li ki fi se tr cl si st nu wo fr) (h65 : hp 65 = kJ 1 f0) (hB : BI n inp an li cl pr gt ki fi se tr si st nu) {r1 : Option Value} {hpw : Nat → KE} (hw : (∃ (v : Int64) (hp1 : Nat → KE) (f : Nat → Int64), (fun (r : Option Value) (hp' : Nat → KE) => ∃ o, o < 512 ∧ o &&& inp = o ∧ x = nI o ∧ r = some (.long (vsN cl (simN inp gt o n) 512)) ∧ hp' = hp) (some (.long v)) hp1 ∧ hp1 65 = kJ 1 f ∧ r1 = some (.int 0) ∧ hpw = va_up hp1 65 (kJ 1 (va_up f 0 v))) ∨ ((fun (E : String) (hp' : Nat → KE) => ¬ (∃ o, o < 512 ∧ o &&& inp = o ∧ x = nI o) ∧ E = IAE ∧ hp' = hp) IAE hpw ∧ r1 = some (.int 1))) : ∃ kc, kc ≤ 3 ∧ r1 = some (.int (nI kc)) ∧ MR hpw th n an li ki fi se tr cl si st nu wo fr ∧ ∀ (r2 : Option Value) (hp2 : Nat → KE), (let hp := hpw; (fun (r : Option Value) (hp' : Nat → KE) => ((∃ o, o < 512 ∧ o &&& inp = o ∧ x = nI o ∧ r = some (.long (vsN cl (simN inp gt o n) (2 ^ n))) ∧ MR hp' 0 n an li ki fi se tr cl si st nu wo fr) ∨ (¬ inpOK inp x ∧ (∃ v, r = some (.long v)) ∧ MR hp' 1 n an li ki fi se tr cl si st nu wo fr)) ∧ FM hp hp') r2 hp2) → ∃ v : Int64, r2 = some (.long v) ∧ FIN kc v hp2 := by
  have hn9 := hB.1.1
  rcases hw with ⟨v, hpa, f, ⟨o, ho, hoi, rfl, hv, rfl⟩, hf, rfl, rfl⟩ | ⟨⟨hno, -, rfl⟩, rfl⟩
  · cases hv
    refine ⟨0, by decide, rfl, hm.out, ?_⟩
    rintro r2 hp2 ⟨⟨o2, ho2, hoi2, e2, rfl, hM⟩ | ⟨h9, -⟩, hFM⟩
    · obtain rfl := nI_iq e2 (by omega) (by omega)
      refine ⟨_, rfl, mkfin (h.out.fm hFM) hM (hFM.o65 (va_up_self _ _ _)) hB (fun _ => ?_)⟩
      rw [va_up_self]
      exact vsN_supp hB.2.2.1 (p2_lt hn9)
    · exact absurd ⟨o, ho, hoi, rfl⟩ h9
  · refine ⟨1, by decide, rfl, hm, ?_⟩
    rintro r2 hp2 ⟨⟨o2, ho2, hoi2, e2, -⟩ | ⟨-, ⟨v, rfl⟩, hM⟩, hFM⟩
    · exact absurd ⟨o2, ho2, hoi2, e2⟩ hno
    · exact ⟨_, rfl, mkfin (h.fm hFM) hM (hFM.o65 h65) hB (fun z => absurd z (by decide))⟩
theorem t_prove (h : XR hp n inp an li cl ex pr gt) (hm : MR hp th n an li ki fi se tr cl si st nu wo fr) (h65 : hp 65 = kJ 1 f0) (hB : BI n inp an li cl pr gt ki fi se tr si st nu) {r1 : Option Value} {hpw : Nat → KE} (hw : (∃ (v : Int32) (hp1 : Nat → KE) (f : Nat → Int64), (fun (r : Option Value) (hp' : Nat → KE) => ∃ last pr', prvN inp gt n 0 (va_up pr 0 cl) = (true, last, pr') ∧ last ≤ n ∧ r = some (.int (nI (cnt (pr' last)))) ∧ XR hp' n inp an (last + 1) cl ex pr' gt ∧ FX hp hp') (some (.int v)) hp1 ∧ hp1 65 = kJ 1 f ∧ r1 = some (.int 0) ∧ hpw = va_up hp1 65 (kJ 1 (va_up f 0 v.toInt64))) ∨ ((fun (E : String) (hp' : Nat → KE) => ∃ last pr', prvN inp gt n 0 (va_up pr 0 cl) = (false, last, pr') ∧ E = AEX ∧ XR hp' n inp an li cl ex pr' gt ∧ FX hp hp') AEX hpw ∧ r1 = some (.int 1))) : ∃ kc, kc ≤ 3 ∧ r1 = some (.int (nI kc)) ∧ MR hpw th n an li ki fi se tr cl si st nu wo fr ∧ ∀ (r2 : Option Value) (hp2 : Nat → KE), (let hp := hpw; (fun (r : Option Value) (hp' : Nat → KE) => (∃ t li2 si2 st2 nu2 wo2 fr2, MR hp' t n an li2 ki fi se tr cl si2 st2 nu2 wo2 fr2 ∧ ((t = 0 ∧ li2 = ngN inp n + 1 ∧ (∀ j, j ≤ ngN inp n → cnt (rwsK inp n gt cl j) ≤ 40) ∧ r = some (.int (nI (cnt (rwsK inp n gt cl (ngN inp n))))) ∧ (∀ j, j ≤ ngN inp n → LN n si2 st2 nu2 j (rwsK inp n gt cl j))) ∨ (t = 1 ∧ li2 = li ∧ si2 = si ∧ st2 = st ∧ nu2 = nu ∧ (∃ j, 0 < j ∧ j ≤ ngN inp n ∧ 40 < cnt (rwsK inp n gt cl j)) ∧ ∃ v, r = some (.int v)))) ∧ FM hp hp') r2 hp2) → ∃ v : Int32, r2 = some (.int v) ∧ FIN kc v.toInt64 hp2 := by
  have hps := fun (b : Bool) (lst : Nat) (pr2 : Nat → Nat → Int64) (e : prvN inp gt n 0 (va_up pr 0 cl) = (b, lst, pr2)) => prv_spec (inp := inp) (n := n) (gt := gt) (cl := cl) (w := n) (last := 0) (pr := va_up pr 0 cl) (fun j _ => by rw [Nat.zero_add]) (fun j hj => by obtain rfl := Nat.le_zero.mp hj; exact va_up_self _ _ _) e
  have hc0 : cnt cl ≤ 40 := Nat.le_trans hB.2.2.2.1 hB.2.2.2.2.1
  rcases hw with ⟨v, hpa, f, ⟨last, pr2, hp9, hl, hv, hX, hF⟩, hf, rfl, rfl⟩ | ⟨⟨last, pr2, hp9, -, hX, hF⟩, rfl⟩
  · cases hv
    obtain ⟨e1, e2, e3⟩ := (hps _ _ _ hp9).1 rfl
    rw [Nat.zero_add] at e1
    subst e1
    have h40 : ∀ j, j ≤ ngN inp n → cnt (rwsK inp n gt cl j) ≤ 40 := fun j hj => by
      by_cases z : j = 0
      · subst z; exact hc0
      · exact e3 j (by omega) hj
    refine ⟨0, by decide, rfl, (hm.fx hF).out, ?_⟩
    rintro r2 hp2 ⟨⟨t, li2, si2, st2, nu2, wo2, fr2, hM, ⟨rfl, rfl, -, rfl, hL⟩ | ⟨-, -, -, -, -, ⟨j, h1, h2, h3⟩, -⟩⟩, hFM⟩
    · refine ⟨_, rfl, mkfin (hX.out.fm hFM) hM (hFM.o65 (va_up_self _ _ _)) (hB.prove h40 hL e2) (fun _ => ?_)⟩
      rw [va_up_self, e2 _ (Nat.le_refl _)]
    · exact absurd (h40 j h2) (by omega)
  · obtain ⟨j0, j1, j2, j3⟩ := (hps _ _ _ hp9).2 rfl
    rw [Nat.zero_add] at j2
    have hl0 : li = 0 := by
      by_cases z : li = 0
      · exact z
      · exact absurd ((hB.2.2.2.2.2.2 z).2 j0 j2) (by omega)
    subst hl0
    refine ⟨1, by decide, rfl, hm.fx hF, ?_⟩
    rintro r2 hp2 ⟨⟨t, li2, si2, st2, nu2, wo2, fr2, hM, ⟨rfl, rfl, h4, rfl, hL⟩ | ⟨rfl, rfl, rfl, rfl, rfl, -, ⟨v, rfl⟩⟩⟩, hFM⟩
    · exact absurd (h4 j0 j2) (by omega)
    · exact ⟨_, rfl, mkfin (hX.fm hFM) hM (hFM.o65 ((hF 65 (by decide)).trans h65)) hB.noline (fun z => absurd z (by decide))⟩
theorem t_size {x : Int32} (h : XR hp n inp an li cl ex pr gt) (hm : MR hp th n an li ki fi se tr cl si st nu wo fr) (h65 : hp 65 = kJ 1 f0) (hB : BI n inp an li cl pr gt ki fi se tr si st nu) {r1 : Option Value} {hpw : Nat → KE} (hw : (∃ (v : Int32) (hp1 : Nat → KE) (f : Nat → Int64), (fun (r : Option Value) (hp' : Nat → KE) => ∃ k, k < li ∧ x = nI k ∧ r = some (.int (nI (cnt (pr k)))) ∧ hp' = hp) (some (.int v)) hp1 ∧ hp1 65 = kJ 1 f ∧ r1 = some (.int 0) ∧ hpw = va_up hp1 65 (kJ 1 (va_up f 0 v.toInt64))) ∨ ((fun (E : String) (hp' : Nat → KE) => lineX li x E ∧ hp' = hp) ISE hpw ∧ r1 = some (.int 1)) ∨ ((fun (E : String) (hp' : Nat → KE) => lineX li x E ∧ hp' = hp) IOB hpw ∧ r1 = some (.int 2))) : ∃ kc, kc ≤ 3 ∧ r1 = some (.int (nI kc)) ∧ MR hpw th n an li ki fi se tr cl si st nu wo fr ∧ ∀ (r2 : Option Value) (hp2 : Nat → KE), (let hp := hpw; (fun (r : Option Value) (hp' : Nat → KE) => (∃ v, r = some (.int v) ∧ (lackN li x = 0 → ∃ k, k < li ∧ x = nI k ∧ v = nI (si k))) ∧ MR hp' (lackN li x) n an li ki fi se tr cl si st nu wo fr ∧ FM hp hp') r2 hp2) → ∃ v : Int32, r2 = some (.int v) ∧ FIN kc v.toInt64 hp2 := by
  have hl9 := hB.li10
  rcases hw with ⟨v, hpa, f, ⟨k, hk, rfl, hv, rfl⟩, hf, rfl, rfl⟩ | ⟨⟨hl, rfl⟩, rfl⟩ | ⟨⟨hl, rfl⟩, rfl⟩
  · cases hv
    refine ⟨0, by decide, rfl, hm.out, ?_⟩
    rintro r2 hp2 ⟨⟨v2, rfl, hv2⟩, hM, hFM⟩
    have l0 := lack_ok hl9 hk rfl
    rw [l0] at hM
    obtain ⟨k2, hk2, e2, rfl⟩ := hv2 l0
    obtain rfl := nI_iq e2 (by omega) (by omega)
    refine ⟨_, rfl, mkfin (h.out.fm hFM) hM (hFM.o65 (va_up_self _ _ _)) hB (fun _ => ?_)⟩
    rw [va_up_self, (hB.2.2.2.2.2.1 k hk).1.2.1]
  · refine ⟨1, by decide, rfl, hm, ?_⟩
    rintro r2 hp2 ⟨⟨v2, rfl, hv2⟩, hM, hFM⟩
    rw [lack_1 (lineX_ISE hl)] at hM
    exact ⟨_, rfl, mkfin (h.fm hFM) hM (hFM.o65 h65) hB (fun z => absurd z (by decide))⟩
  · refine ⟨2, by decide, rfl, hm, ?_⟩
    rintro r2 hp2 ⟨⟨v2, rfl, hv2⟩, hM, hFM⟩
    rw [lack_2 (lineX_IOB hl)] at hM
    exact ⟨_, rfl, mkfin (h.fm hFM) hM (hFM.o65 h65) hB (fun z => absurd z (by decide))⟩
theorem t_monomial {x y : Int32} (h : XR hp n inp an li cl ex pr gt) (hm : MR hp th n an li ki fi se tr cl si st nu wo fr) (h65 : hp 65 = kJ 1 f0) (hB : BI n inp an li cl pr gt ki fi se tr si st nu) {r1 : Option Value} {hpw : Nat → KE} (hw : (∃ (v : Int32) (hp1 : Nat → KE) (f : Nat → Int64), (fun (r : Option Value) (hp' : Nat → KE) => ∃ k i, k < li ∧ x = nI k ∧ i < cnt (pr k) ∧ y = nI i ∧ r = some (.int (nI (monAt (pr k) 511 i))) ∧ hp' = hp) (some (.int v)) hp1 ∧ hp1 65 = kJ 1 f ∧ r1 = some (.int 0) ∧ hpw = va_up hp1 65 (kJ 1 (va_up f 0 v.toInt64))) ∨ ((fun (E : String) (hp' : Nat → KE) => (lineX li x E ∨ (∃ k, k < li ∧ x = nI k ∧ (¬ ∃ i, i < cnt (pr k) ∧ y = nI i) ∧ E = IOB)) ∧ hp' = hp) ISE hpw ∧ r1 = some (.int 1)) ∨ ((fun (E : String) (hp' : Nat → KE) => (lineX li x E ∨ (∃ k, k < li ∧ x = nI k ∧ (¬ ∃ i, i < cnt (pr k) ∧ y = nI i) ∧ E = IOB)) ∧ hp' = hp) IOB hpw ∧ r1 = some (.int 2))) : ∃ kc, kc ≤ 3 ∧ r1 = some (.int (nI kc)) ∧ MR hpw th n an li ki fi se tr cl si st nu wo fr ∧ ∀ (r2 : Option Value) (hp2 : Nat → KE), (let hp := hpw; (fun (r : Option Value) (hp' : Nat → KE) => (∃ t, MR hp' t n an li ki fi se tr cl si st nu wo fr ∧ ((t = lackN li x ∧ ¬ t = 0 ∧ ∃ v, r = some (.int v)) ∨ (lackN li x = 0 ∧ ∃ k, k < li ∧ x = nI k ∧ ((t = 2 ∧ (¬ ∃ i, i < si k ∧ y = nI i) ∧ ∃ v, r = some (.int v)) ∨ (t = 0 ∧ ∃ i, i < si k ∧ y = nI i ∧ r = some (.int (nI (monAt (pr k) (2 ^ n - 1) i)))))))) ∧ FM hp hp') r2 hp2) → ∃ v : Int32, r2 = some (.int v) ∧ FIN kc v.toInt64 hp2 := by
  have hl9 := hB.li10
  rcases hw with ⟨v, hpa, f, ⟨k, i, hk, rfl, hi, rfl, hv, rfl⟩, hf, rfl, rfl⟩ | ⟨⟨hl, rfl⟩, rfl⟩ | ⟨⟨hl, rfl⟩, rfl⟩
  · cases hv
    obtain ⟨hLN, hsu⟩ := hB.2.2.2.2.2.1 k hk
    have h40 := hLN.1
    have hcs := hLN.2.1
    have l0 := lack_ok hl9 hk rfl
    refine ⟨0, by decide, rfl, hm.out, ?_⟩
    rintro r2 hp2 ⟨⟨t, hM, ⟨rfl, ht, -⟩ | ⟨-, k2, hk2, e2, ⟨-, hni, -⟩ | ⟨rfl, i2, hi2, e3, rfl⟩⟩⟩, hFM⟩
    · exact absurd l0 ht
    · obtain rfl := nI_iq e2 (by omega) (by omega)
      exact absurd ⟨i, by rw [← hcs]; exact hi, rfl⟩ hni
    · obtain rfl := nI_iq e2 (by omega) (by omega)
      obtain rfl := nI_iq e3 (by omega) (by omega)
      refine ⟨_, rfl, mkfin (h.out.fm hFM) hM (hFM.o65 (va_up_self _ _ _)) hB (fun _ => ?_)⟩
      rw [va_up_self, supp_mon hB.1.1 hsu]
  · have l1 : li = 0 := by
      rcases hl with hl | ⟨k, hk, -, -, q⟩
      · exact lineX_ISE hl
      · exact absurd q (by decide +kernel)
    refine ⟨1, by decide, rfl, hm, ?_⟩
    rintro r2 hp2 ⟨⟨t, hM, ⟨rfl, ht, ⟨v, rfl⟩⟩ | ⟨h9, -⟩⟩, hFM⟩
    · rw [lack_1 l1] at hM
      exact ⟨_, rfl, mkfin (h.fm hFM) hM (hFM.o65 h65) hB (fun z => absurd z (by decide))⟩
    · rw [lack_1 l1] at h9; cases h9
  · refine ⟨2, by decide, rfl, hm, ?_⟩
    rcases hl with hl | ⟨k, hk, rfl, hni, -⟩
    · have l2 := lack_2 (lineX_IOB hl)
      rintro r2 hp2 ⟨⟨t, hM, ⟨rfl, ht, ⟨v, rfl⟩⟩ | ⟨h9, -⟩⟩, hFM⟩
      · rw [l2] at hM
        exact ⟨_, rfl, mkfin (h.fm hFM) hM (hFM.o65 h65) hB (fun z => absurd z (by decide))⟩
      · rw [l2] at h9; cases h9
    · have hcs := (hB.2.2.2.2.2.1 k hk).1.2.1
      rintro r2 hp2 ⟨⟨t, hM, ⟨rfl, ht, -⟩ | ⟨-, k2, hk2, e2, ⟨rfl, hni2, ⟨v, rfl⟩⟩ | ⟨rfl, i2, hi2, e3, rfl⟩⟩⟩, hFM⟩
      · exact absurd (lack_ok hl9 hk rfl) ht
      · exact ⟨_, rfl, mkfin (h.fm hFM) hM (hFM.o65 h65) hB (fun z => absurd z (by decide))⟩
      · obtain rfl := nI_iq e2 (by omega) (by omega)
        exact absurd ⟨i2, by rw [hcs]; exact hi2, e3⟩ hni
theorem t_coefficient {x y : Int32} (h : XR hp n inp an li cl ex pr gt) (hm : MR hp th n an li ki fi se tr cl si st nu wo fr) (h65 : hp 65 = kJ 1 f0) (hB : BI n inp an li cl pr gt ki fi se tr si st nu) {r1 : Option Value} {hpw : Nat → KE} (hw : (∃ (v : Int64) (hp1 : Nat → KE) (f : Nat → Int64), (fun (r : Option Value) (hp' : Nat → KE) => ∃ k i, k < li ∧ x = nI k ∧ i < 2 ^ n ∧ y = nI i ∧ r = some (.long (pr k i)) ∧ hp' = hp) (some (.long v)) hp1 ∧ hp1 65 = kJ 1 f ∧ r1 = some (.int 0) ∧ hpw = va_up hp1 65 (kJ 1 (va_up f 0 v))) ∨ ((fun (E : String) (hp' : Nat → KE) => (lineX li x E ∨ ((∃ k, k < li ∧ x = nI k) ∧ setB n y = false ∧ E = IOB)) ∧ hp' = hp) ISE hpw ∧ r1 = some (.int 1)) ∨ ((fun (E : String) (hp' : Nat → KE) => (lineX li x E ∨ ((∃ k, k < li ∧ x = nI k) ∧ setB n y = false ∧ E = IOB)) ∧ hp' = hp) IOB hpw ∧ r1 = some (.int 2))) : ∃ kc, kc ≤ 3 ∧ r1 = some (.int (nI kc)) ∧ MR hpw th n an li ki fi se tr cl si st nu wo fr ∧ ∀ (r2 : Option Value) (hp2 : Nat → KE), (let hp := hpw; (fun (r : Option Value) (hp' : Nat → KE) => (∃ t, MR hp' t n an li ki fi se tr cl si st nu wo fr ∧ ((t = lackN li x ∧ ¬ t = 0 ∧ ∃ v, r = some (.long v)) ∨ (lackN li x = 0 ∧ ∃ k, k < li ∧ x = nI k ∧ ((t = 2 ∧ setB n y = false ∧ ∃ v, r = some (.long v)) ∨ (t = 0 ∧ ∃ i, i < 2 ^ n ∧ y = nI i ∧ r = some (.long (pr k i))))))) ∧ FM hp hp') r2 hp2) → ∃ v : Int64, r2 = some (.long v) ∧ FIN kc v hp2 := by
  have hl9 := hB.li10
  have hn9 := hB.1.1
  have h5 := p2_lt hn9
  rcases hw with ⟨v, hpa, f, ⟨k, i, hk, rfl, hi, rfl, hv, rfl⟩, hf, rfl, rfl⟩ | ⟨⟨hl, rfl⟩, rfl⟩ | ⟨⟨hl, rfl⟩, rfl⟩
  · cases hv
    have l0 := lack_ok hl9 hk rfl
    refine ⟨0, by decide, rfl, hm.out, ?_⟩
    rintro r2 hp2 ⟨⟨t, hM, ⟨rfl, ht, -⟩ | ⟨-, k2, hk2, e2, ⟨-, hni, -⟩ | ⟨rfl, i2, hi2, e3, rfl⟩⟩⟩, hFM⟩
    · exact absurd l0 ht
    · rw [(setB_iff hn9).mpr ⟨i, hi, rfl⟩] at hni; cases hni
    · obtain rfl := nI_iq e2 (by omega) (by omega)
      obtain rfl := nI_iq e3 (by omega) (by omega)
      exact ⟨_, rfl, mkfin (h.out.fm hFM) hM (hFM.o65 (va_up_self _ _ _)) hB (fun _ => va_up_self _ _ _)⟩
  · have l1 : li = 0 := by
      rcases hl with hl | ⟨-, -, q⟩
      · exact lineX_ISE hl
      · exact absurd q (by decide +kernel)
    refine ⟨1, by decide, rfl, hm, ?_⟩
    rintro r2 hp2 ⟨⟨t, hM, ⟨rfl, ht, ⟨v, rfl⟩⟩ | ⟨h9, -⟩⟩, hFM⟩
    · rw [lack_1 l1] at hM
      exact ⟨_, rfl, mkfin (h.fm hFM) hM (hFM.o65 h65) hB (fun z => absurd z (by decide))⟩
    · rw [lack_1 l1] at h9; cases h9
  · refine ⟨2, by decide, rfl, hm, ?_⟩
    rcases hl with hl | ⟨⟨k, hk, rfl⟩, hni, -⟩
    · have l2 := lack_2 (lineX_IOB hl)
      rintro r2 hp2 ⟨⟨t, hM, ⟨rfl, ht, ⟨v, rfl⟩⟩ | ⟨h9, -⟩⟩, hFM⟩
      · rw [l2] at hM
        exact ⟨_, rfl, mkfin (h.fm hFM) hM (hFM.o65 h65) hB (fun z => absurd z (by decide))⟩
      · rw [l2] at h9; cases h9
    · rintro r2 hp2 ⟨⟨t, hM, ⟨rfl, ht, -⟩ | ⟨-, k2, hk2, e2, ⟨rfl, hni2, ⟨v, rfl⟩⟩ | ⟨rfl, i2, hi2, e3, rfl⟩⟩⟩, hFM⟩
      · exact absurd (lack_ok hl9 hk rfl) ht
      · exact ⟨_, rfl, mkfin (h.fm hFM) hM (hFM.o65 h65) hB (fun z => absurd z (by decide))⟩
      · rw [(setB_iff hn9).mpr ⟨i2, hi2, e3⟩] at hni; cases hni
theorem t_spoil {x y z : Int32} (h : XR hp n inp an li cl ex pr gt) (hm : MR hp th n an li ki fi se tr cl si st nu wo fr) (h65 : hp 65 = kJ 1 f0) (hB : BI n inp an li cl pr gt ki fi se tr si st nu) {r1 : Option Value} {hpw : Nat → KE} (hw : (∃ (v : Int64) (hp1 : Nat → KE) (f : Nat → Int64), (fun (r : Option Value) (hp' : Nat → KE) => ∃ k i, k < li ∧ x = nI k ∧ i < 2 ^ n ∧ y = nI i ∧ ¬ (¬ z = 0 ∧ pr k i = 0 ∧ 40 ≤ cnt (pr k)) ∧ r = some (.long (pr k i + z.toInt64)) ∧ XR hp' n inp an li cl ex (va_up pr k (inc (pr k) i z.toInt64)) gt ∧ FX hp hp') (some (.long v)) hp1 ∧ hp1 65 = kJ 1 f ∧ r1 = some (.int 0) ∧ hpw = va_up hp1 65 (kJ 1 (va_up f 0 v))) ∨ ((fun (E : String) (hp' : Nat → KE) => (lineX li x E ∨ ((∃ k, k < li ∧ x = nI k) ∧ setB n y = false ∧ E = IOB) ∨ (∃ k i, k < li ∧ x = nI k ∧ i < 2 ^ n ∧ y = nI i ∧ (¬ z = 0 ∧ pr k i = 0 ∧ 40 ≤ cnt (pr k)) ∧ E = AEX)) ∧ hp' = hp) ISE hpw ∧ r1 = some (.int 1)) ∨ ((fun (E : String) (hp' : Nat → KE) => (lineX li x E ∨ ((∃ k, k < li ∧ x = nI k) ∧ setB n y = false ∧ E = IOB) ∨ (∃ k i, k < li ∧ x = nI k ∧ i < 2 ^ n ∧ y = nI i ∧ (¬ z = 0 ∧ pr k i = 0 ∧ 40 ≤ cnt (pr k)) ∧ E = AEX)) ∧ hp' = hp) IOB hpw ∧ r1 = some (.int 2)) ∨ ((fun (E : String) (hp' : Nat → KE) => (lineX li x E ∨ ((∃ k, k < li ∧ x = nI k) ∧ setB n y = false ∧ E = IOB) ∨ (∃ k i, k < li ∧ x = nI k ∧ i < 2 ^ n ∧ y = nI i ∧ (¬ z = 0 ∧ pr k i = 0 ∧ 40 ≤ cnt (pr k)) ∧ E = AEX)) ∧ hp' = hp) AEX hpw ∧ r1 = some (.int 3))) : ∃ kc, kc ≤ 3 ∧ r1 = some (.int (nI kc)) ∧ MR hpw th n an li ki fi se tr cl si st nu wo fr ∧ ∀ (r2 : Option Value) (hp2 : Nat → KE), (let hp := hpw; (fun (r : Option Value) (hp' : Nat → KE) => (∃ t si2 st2 nu2, MR hp' t n an li ki fi se tr cl si2 st2 nu2 wo fr ∧ ((t = lackN li x ∧ ¬ t = 0 ∧ (∃ v, r = some (.long v)) ∧ si2 = si ∧ st2 = st ∧ nu2 = nu) ∨ (lackN li x = 0 ∧ ∃ k, k < li ∧ x = nI k ∧ ((t = 2 ∧ setB n y = false ∧ (∃ v, r = some (.long v)) ∧ si2 = si ∧ st2 = st ∧ nu2 = nu) ∨ (∃ i, i < 2 ^ n ∧ y = nI i ∧ ((t = 3 ∧ pr k i = 0 ∧ ¬ pr k i + z.toInt64 = 0 ∧ si k = 40 ∧ (∃ v, r = some (.long v)) ∧ si2 = si ∧ st2 = st ∧ nu2 = nu) ∨ (t = 0 ∧ ¬ (pr k i = 0 ∧ ¬ pr k i + z.toInt64 = 0 ∧ si k = 40) ∧ r = some (.long (pr k i + z.toInt64)) ∧ LN n si2 st2 nu2 k (va_up (pr k) i (pr k i + z.toInt64)) ∧ OL si st nu si2 st2 nu2 k))))))) ∧ FM hp hp') r2 hp2) → ∃ v : Int64, r2 = some (.long v) ∧ FIN kc v hp2 := by
  have hl9 := hB.li10
  have hn9 := hB.1.1
  have h5 := p2_lt hn9
  rcases hw with ⟨v, hpa, f, ⟨k, i, hk, rfl, hi, rfl, hno, hv, hX, hF⟩, hf, rfl, rfl⟩ | ⟨⟨hl, rfl⟩, rfl⟩ | ⟨⟨hl, rfl⟩, rfl⟩ | ⟨⟨hl, rfl⟩, rfl⟩
  · cases hv
    have l0 := lack_ok hl9 hk rfl
    obtain ⟨hLN, hsu⟩ := hB.2.2.2.2.2.1 k hk
    have h40 := hLN.1
    have hcs := hLN.2.1
    refine ⟨0, by decide, rfl, (hm.fx hF).out, ?_⟩
    rintro r2 hp2 ⟨⟨t, si2, st2, nu2, hM, ⟨rfl, ht, -⟩ | ⟨-, k2, hk2, e2, ⟨-, hni, -⟩ | ⟨i2, hi2, e3, ⟨rfl, q1, q2, q3, -⟩ | ⟨rfl, -, rfl, q4, q5⟩⟩⟩⟩, hFM⟩
    · exact absurd l0 ht
    · rw [(setB_iff hn9).mpr ⟨i, hi, rfl⟩] at hni; cases hni
    · obtain rfl := nI_iq e2 (by omega) (by omega)
      obtain rfl := nI_iq e3 (by omega) (by omega)
      refine absurd ⟨fun z0 => q2 ?_, q1, by omega⟩ hno
      rw [z0, q1]; rfl
    · obtain rfl := nI_iq e2 (by omega) (by omega)
      obtain rfl := nI_iq e3 (by omega) (by omega)
      exact ⟨_, rfl, mkfin (hX.out.fm hFM) hM (hFM.o65 (va_up_self _ _ _)) (BI.spoil (pr2 := pr) hB hi q4 q5) (fun _ => va_up_self _ _ _)⟩
  · have l1 : li = 0 := by
      rcases hl with hl | ⟨-, -, q⟩ | ⟨k, i, -, -, -, -, -, q⟩
      · exact lineX_ISE hl
      · exact absurd q (by decide +kernel)
      · exact absurd q (by decide +kernel)
    refine ⟨1, by decide, rfl, hm, ?_⟩
    rintro r2 hp2 ⟨⟨t, si2, st2, nu2, hM, ⟨rfl, ht, ⟨v, rfl⟩, rfl, rfl, rfl⟩ | ⟨h9, -⟩⟩, hFM⟩
    · rw [lack_1 l1] at hM
      exact ⟨_, rfl, mkfin (h.fm hFM) hM (hFM.o65 h65) hB (fun z => absurd z (by decide))⟩
    · rw [lack_1 l1] at h9; cases h9
  · refine ⟨2, by decide, rfl, hm, ?_⟩
    rcases hl with hl | ⟨⟨k, hk, rfl⟩, hni, -⟩ | ⟨k, i, -, -, -, -, -, q⟩
    · have l2 := lack_2 (lineX_IOB hl)
      rintro r2 hp2 ⟨⟨t, si2, st2, nu2, hM, ⟨rfl, ht, ⟨v, rfl⟩, rfl, rfl, rfl⟩ | ⟨h9, -⟩⟩, hFM⟩
      · rw [l2] at hM
        exact ⟨_, rfl, mkfin (h.fm hFM) hM (hFM.o65 h65) hB (fun z => absurd z (by decide))⟩
      · rw [l2] at h9; cases h9
    · rintro r2 hp2 ⟨⟨t, si2, st2, nu2, hM, ⟨rfl, ht, -⟩ | ⟨-, k2, hk2, e2, ⟨rfl, hni2, ⟨v, rfl⟩, rfl, rfl, rfl⟩ | ⟨i2, hi2, e3, -⟩⟩⟩, hFM⟩
      · exact absurd (lack_ok hl9 hk rfl) ht
      · exact ⟨_, rfl, mkfin (h.fm hFM) hM (hFM.o65 h65) hB (fun z => absurd z (by decide))⟩
      · rw [(setB_iff hn9).mpr ⟨i2, hi2, e3⟩] at hni; cases hni
    · exact absurd q (by decide +kernel)
  · rcases hl with hl | ⟨-, -, q⟩ | ⟨k, i, hk, rfl, hi, rfl, ⟨z1, z2, z3⟩, -⟩
    · exact (lineX_AEX hl).elim
    · exact absurd q (by decide +kernel)
    have l0 := lack_ok hl9 hk rfl
    obtain ⟨hLN, hsu⟩ := hB.2.2.2.2.2.1 k hk
    have h40 := hLN.1
    have hcs := hLN.2.1
    refine ⟨3, by decide, rfl, hm, ?_⟩
    rintro r2 hp2 ⟨⟨t, si2, st2, nu2, hM, ⟨rfl, ht, -⟩ | ⟨-, k2, hk2, e2, ⟨-, hni, -⟩ | ⟨i2, hi2, e3, ⟨rfl, q1, q2, q3, ⟨v, rfl⟩, rfl, rfl, rfl⟩ | ⟨rfl, q6, -⟩⟩⟩⟩, hFM⟩
    · exact absurd l0 ht
    · rw [(setB_iff hn9).mpr ⟨i, hi, rfl⟩] at hni; cases hni
    · exact ⟨_, rfl, mkfin (h.fm hFM) hM (hFM.o65 h65) hB (fun z => absurd z (by decide))⟩
    · obtain rfl := nI_iq e2 (by omega) (by omega)
      obtain rfl := nI_iq e3 (by omega) (by omega)
      refine absurd ⟨z2, fun z0 => z1 (i64_z ?_), by omega⟩ q6
      rw [z2, Int64.zero_add] at z0
      exact z0
theorem t_check (h : XR hp n inp an li cl ex pr gt) (hm : MR hp th n an li ki fi se tr cl si st nu wo fr) (h65 : hp 65 = kJ 1 f0) (hB : BI n inp an li cl pr gt ki fi se tr si st nu) {r1 : Option Value} {hpw : Nat → KE} (hw : (∃ (v : Int32) (hp1 : Nat → KE) (f : Nat → Int64), (fun (r : Option Value) (hp' : Nat → KE) => ¬ li = 0 ∧ r = some (.int (nI (if eqR (pr 0) cl = true then (chkN inp gt pr n 0).getD li else 0))) ∧ (∃ ex', XR hp' n inp an li cl ex' pr gt) ∧ FX hp hp') (some (.int v)) hp1 ∧ hp1 65 = kJ 1 f ∧ r1 = some (.int 0) ∧ hpw = va_up hp1 65 (kJ 1 (va_up f 0 v.toInt64))) ∨ ((fun (E : String) (hp' : Nat → KE) => li = 0 ∧ E = ISE ∧ hp' = hp) ISE hpw ∧ r1 = some (.int 1))) : ∃ kc, kc ≤ 3 ∧ r1 = some (.int (nI kc)) ∧ MR hpw th n an li ki fi se tr cl si st nu wo fr ∧ ∀ (r2 : Option Value) (hp2 : Nat → KE), (let hp := hpw; (fun (r : Option Value) (hp' : Nat → KE) => (∃ t wo2 fr2, MR hp' t n an li ki fi se tr cl si st nu wo2 fr2 ∧ ((li = 0 ∧ t = 1 ∧ ∃ v, r = some (.int v)) ∨ (¬ li = 0 ∧ t = 0 ∧ r = some (.int (nI (if eqR (pr 0) cl = true then (chkN inp gt pr n 0).getD li else 0)))))) ∧ FM hp hp') r2 hp2) → ∃ v : Int32, r2 = some (.int v) ∧ FIN kc v.toInt64 hp2 := by
  rcases hw with ⟨v, hpa, f, ⟨hl, hv, ⟨ex2, hX⟩, hF⟩, hf, rfl, rfl⟩ | ⟨⟨hl, -, rfl⟩, rfl⟩
  · have hv2 := Value.int.inj (Option.some.inj hv)
    subst hv2
    refine ⟨0, by decide, rfl, (hm.fx hF).out, ?_⟩
    rintro r2 hp2 ⟨⟨t, wo2, fr2, hM, ⟨h9, -⟩ | ⟨-, rfl, rfl⟩⟩, hFM⟩
    · exact absurd h9 hl
    · exact ⟨_, rfl, mkfin (hX.out.fm hFM) hM (hFM.o65 (va_up_self _ _ _)) hB (fun _ => va_up_self _ _ _)⟩
  · refine ⟨1, by decide, rfl, hm, ?_⟩
    rintro r2 hp2 ⟨⟨t, wo2, fr2, hM, ⟨-, rfl, ⟨v, rfl⟩⟩ | ⟨h9, -⟩⟩, hFM⟩
    · exact ⟨_, rfl, mkfin (h.fm hFM) hM (hFM.o65 h65) hB (fun z => absurd z (by decide))⟩
    · exact absurd hl h9
theorem t_witness (h : XR hp n inp an li cl ex pr gt) (hm : MR hp th n an li ki fi se tr cl si st nu wo fr) (h65 : hp 65 = kJ 1 f0) (hB : BI n inp an li cl pr gt ki fi se tr si st nu) {r1 : Option Value} {hpw : Nat → KE} (hw : (∃ (v : Int32) (hp1 : Nat → KE) (f : Nat → Int64), (fun (r : Option Value) (hp' : Nat → KE) => ¬ li = 0 ∧ ¬ cnt (pr (li - 1)) = 0 ∧ r = some (.int (nI (lmN (pr (li - 1)) 512).1)) ∧ hp' = hp) (some (.int v)) hp1 ∧ hp1 65 = kJ 1 f ∧ r1 = some (.int 0) ∧ hpw = va_up hp1 65 (kJ 1 (va_up f 0 v.toInt64))) ∨ ((fun (E : String) (hp' : Nat → KE) => ((li = 0 ∧ E = ISE) ∨ (¬ li = 0 ∧ cnt (pr (li - 1)) = 0 ∧ E = NSE)) ∧ hp' = hp) ISE hpw ∧ r1 = some (.int 1)) ∨ ((fun (E : String) (hp' : Nat → KE) => ((li = 0 ∧ E = ISE) ∨ (¬ li = 0 ∧ cnt (pr (li - 1)) = 0 ∧ E = NSE)) ∧ hp' = hp) NSE hpw ∧ r1 = some (.int 2))) : ∃ kc, kc ≤ 3 ∧ r1 = some (.int (nI kc)) ∧ MR hpw th n an li ki fi se tr cl si st nu wo fr ∧ ∀ (r2 : Option Value) (hp2 : Nat → KE), (let hp := hpw; (fun (r : Option Value) (hp' : Nat → KE) => (∃ t, MR hp' t n an li ki fi se tr cl si st nu wo fr ∧ ((li = 0 ∧ t = 1 ∧ ∃ v, r = some (.int v)) ∨ (¬ li = 0 ∧ si (li - 1) = 0 ∧ t = 2 ∧ ∃ v, r = some (.int v)) ∨ (¬ li = 0 ∧ ¬ si (li - 1) = 0 ∧ t = 0 ∧ r = some (.int (bV (wtN (pr (li - 1)) (2 ^ n))))))) ∧ FM hp hp') r2 hp2) → ∃ v : Int32, r2 = some (.int v) ∧ FIN kc v.toInt64 hp2 := by
  rcases hw with ⟨v, hpa, f, ⟨hl, hc, hv, rfl⟩, hf, rfl, rfl⟩ | ⟨⟨hl, rfl⟩, rfl⟩ | ⟨⟨hl, rfl⟩, rfl⟩
  · have hv2 := Value.int.inj (Option.some.inj hv)
    subst hv2
    obtain ⟨hLN, hsu⟩ := hB.2.2.2.2.2.1 (li - 1) (by omega)
    have hcs := hLN.2.1
    obtain ⟨b, w1, w2⟩ := supp_least hB.1.1 hsu hc
    refine ⟨0, by decide, rfl, hm.out, ?_⟩
    rintro r2 hp2 ⟨⟨t, hM, ⟨h9, -⟩ | ⟨-, h9, -⟩ | ⟨-, -, rfl, rfl⟩⟩, hFM⟩
    · exact absurd h9 hl
    · omega
    · refine ⟨_, rfl, mkfin (h.out.fm hFM) hM (hFM.o65 (va_up_self _ _ _)) hB (fun _ => ?_)⟩
      rw [va_up_self, w1, w2]
      rfl
  · have l1 : li = 0 := by
      rcases hl with ⟨q, -⟩ | ⟨-, -, q⟩
      · exact q
      · exact absurd q (by decide +kernel)
    refine ⟨1, by decide, rfl, hm, ?_⟩
    rintro r2 hp2 ⟨⟨t, hM, ⟨-, rfl, ⟨v, rfl⟩⟩ | ⟨h9, -⟩ | ⟨h9, -⟩⟩, hFM⟩
    · exact ⟨_, rfl, mkfin (h.fm hFM) hM (hFM.o65 h65) hB (fun z => absurd z (by decide))⟩
    · exact absurd l1 h9
    · exact absurd l1 h9
  · obtain ⟨l1, l2⟩ : ¬ li = 0 ∧ cnt (pr (li - 1)) = 0 := by
      rcases hl with ⟨-, q⟩ | ⟨q, q2, -⟩
      · exact absurd q (by decide +kernel)
      · exact ⟨q, q2⟩
    have hcs := (hB.2.2.2.2.2.1 (li - 1) (by omega)).1.2.1
    refine ⟨2, by decide, rfl, hm, ?_⟩
    rintro r2 hp2 ⟨⟨t, hM, ⟨h9, -⟩ | ⟨-, -, rfl, ⟨v, rfl⟩⟩ | ⟨-, h9, -⟩⟩, hFM⟩
    · exact absurd h9 l1
    · exact ⟨_, rfl, mkfin (h.fm hFM) hM (hFM.o65 h65) hB (fun z => absurd z (by decide))⟩
    · omega
end
end
