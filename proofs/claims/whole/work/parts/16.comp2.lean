section
variable {p : Program} {l : Launch} {e : Env} {R : Room} {s : State} {m : MethodId} {args : Array Value} {below : List Frame} {meth : Method} {c : Code} {D : va_G} {dA ad sa : Nat → Nat} {L : List Nat} {A : Nat → Prop} {nL cells slots : Nat} {Q : State → Prop} {hp : Nat → KE}
theorem g_cutA {ι : Type} (P : ι → Prop) (hpf : ι → Nat → KE) (pc1 : Nat) (lvf : ι → List (Nat × Value)) (stf : ι → List Value) {pc : Nat} {lv : List (Nat × Value)} {st : List Value} (t : ∀ i, P i → G p l e R s m args below meth c D dA ad L A nL cells slots Q (hpf i) pc1 (lvf i) (stf i)) (k : (∀ i, P i → G p l e R s m args below meth c D dA ad L A nL cells slots Q (hpf i) pc1 (lvf i) (stf i)) → G p l e R s m args below meth c D dA ad L A nL cells slots Q hp pc lv st) : G p l e R s m args below meth c D dA ad L A nL cells slots Q hp pc lv st := k t
end
section
variable {l : Launch} {D : va_G} {dA ad sa : Nat → Nat} {L : List Nat} {hp : Nat → KE} {n inp an lc : Nat} {cl ex : Nat → Int64} {pr : Nat → Nat → Int64} {gt : Nat → GT}
theorem c_X2_refuseTenth (hW : KF ad L) (hfl : l.stackTraces = false) (h : XR hp n inp an lc cl ex pr gt) (hn : n ≤ 9) : KX l yX2_refuseTenthWire cX2_refuseTenthWire 1 none (rmK 6 1 6) D dA ad sa L [.ref 0] hp (fun r hp' => n < 9 ∧ r = none ∧ hp' = hp) (fun E hp' => n = 9 ∧ E = ISE ∧ hp' = hp) := by
  refine KX.of rfl ok_X2_refuseTenthWire (len_of rfl) hW.1.1 hW.1.2 ?_
  intro p e s m args below meth c A hC hN hE
  refine g_run hC 1 rfl ?_
  refine g_get hC rfl F_X2_37 (hW.2 0 (by decide)) h.1 rfl ?_
  refine g_run hC 1 rfl ?_
  refine g_iclt (tgt := 19) hC rfl (by decide) (fun h1 => ?_) (fun h1 => ?_)
  · exact gx_ret hC rfl rfl ⟨(nI_ltI (a := n) (b := 9) (by omega) (by decide)).mp h1, rfl, rfl⟩ (by decide) (by decide)
  · have h2 : ¬ n < 9 := fun z => h1 ((nI_ltI (a := n) (b := 9) (by omega) (by decide)).mpr z)
    exact g_throw hC hN hE hfl T_71_154_75 rfl rfl rfl rfl rfl (by decide) (by decide) (by decide) ⟨by omega, rfl, rfl⟩
theorem c_X2_refuseOther (hW : KF ad L) (hfl : l.stackTraces = false) (h : XR hp n inp an lc cl ex pr gt) (x : Int32) : KX l yX2_refuseOtherThanInputs cX2_refuseOtherThanInputs 2 none (rmK 6 1 6) D dA ad sa L [.ref 0, .int x] hp (fun r hp' => x &&& (nI inp ^^^ cI (-1)) = 0 ∧ r = none ∧ hp' = hp) (fun E hp' => ¬ x &&& (nI inp ^^^ cI (-1)) = 0 ∧ E = IAE ∧ hp' = hp) := by
  refine KX.of rfl ok_X2_refuseOtherThanInputs (len_of rfl) hW.1.1 hW.1.2 ?_
  intro p e s m args below meth c A hC hN hE
  refine g_run hC 2 rfl ?_
  refine g_get hC rfl F_X2_33 (hW.2 0 (by decide)) h.1 rfl ?_
  refine g_run hC 3 rfl ?_
  refine g_ifeq (tgt := 21) hC rfl (by decide) (fun h1 => ?_) (fun h1 => ?_)
  · exact gx_ret hC rfl rfl ⟨h1, rfl, rfl⟩ (by decide) (by decide)
  · exact g_throw hC hN hE hfl T_52_156_56 rfl rfl rfl rfl rfl (by decide) (by decide) (by decide) ⟨h1, rfl, rfl⟩
theorem c_X2_refuseWithout (hW : KF ad L) (hfl : l.stackTraces = false) (h : XR hp n inp an lc cl ex pr gt) (hlc : lc < 2 ^ 31) : KX l yX2_refuseWithoutProof cX2_refuseWithoutProof 1 none (rmK 6 1 6) D dA ad sa L [.ref 0] hp (fun r hp' => ¬ lc = 0 ∧ r = none ∧ hp' = hp) (fun E hp' => lc = 0 ∧ E = ISE ∧ hp' = hp) := by
  refine KX.of rfl ok_X2_refuseWithoutProof (len_of rfl) hW.1.1 hW.1.2 ?_
  intro p e s m args below meth c A hC hN hE
  refine g_run hC 1 rfl ?_
  refine g_get hC rfl F_X2_113 (hW.2 0 (by decide)) h.1 rfl ?_
  refine g_ifne (tgt := 17) hC rfl (by decide) (fun h1 => ?_) (fun h1 => ?_)
  · exact gx_ret hC rfl rfl ⟨fun z => h1 ((nI_z hlc).mpr z), rfl, rfl⟩ (by decide) (by decide)
  · exact g_throw hC hN hE hfl T_71_158_75 rfl rfl rfl rfl rfl (by decide) (by decide) (by decide) ⟨(nI_z hlc).mp h1, rfl, rfl⟩
theorem bI_z (b : Bool) : bI b = 0 ↔ b = false := by cases b <;> decide
theorem c_X2_refuseSet (hW : KF ad L) (hfl : l.stackTraces = false) (h : XR hp n inp an lc cl ex pr gt) (hn : n ≤ 9) (x : Int32) : KX l yX2_refuseSetOutside cX2_refuseSetOutside 2 none (rmK 6 1 6) D dA ad sa L [.ref 0, .int x] hp (fun r hp' => setB n x = true ∧ r = none ∧ hp' = hp) (fun E hp' => setB n x = false ∧ E = IOB ∧ hp' = hp) := by
  refine KX.of rfl ok_X2_refuseSetOutside (len_of rfl) hW.1.1 hW.1.2 ?_
  intro p e s m args below meth c A hC hN hE
  refine g_run hC 2 rfl ?_
  refine g_callV hC hN [.int x] (c_X2_isSet hW h hn x) rfl M_X2_63 (hW.2 0 (by decide)) h.1 rfl rfl (len_of rfl) (by decide) (by decide) ?_
  rintro r hp1 ⟨rfl, rfl⟩
  refine g_ifne (tgt := 18) hC rfl (by decide) (fun h1 => ?_) (fun h1 => ?_)
  · refine gx_ret hC rfl rfl ⟨?_, rfl, rfl⟩ (by decide) (by decide)
    cases hb : setB n x with
    | true => rfl
    | false => exact absurd ((bI_z _).mpr hb) h1
  · exact g_throw hC hN hE hfl T_120_66_124 rfl rfl rfl rfl rfl (by decide) (by decide) (by decide) ⟨(bI_z _).mp h1, rfl, rfl⟩
/-- a line's number -/
def lineB (lc : Nat) (x : Int32) : Bool := decide (0 ≤ x) && decide (x < nI lc)
theorem lineB_iff {lc : Nat} {x : Int32} (h : lc ≤ 10) : lineB lc x = true ↔ ∃ k, k < lc ∧ x = nI k := by
  unfold lineB
  simp only [Bool.and_eq_true, decide_eq_true_eq]
  constructor
  · rintro ⟨h1, h3⟩
    rcases pk_ix x (n := lc) (by omega) with h4 | h4 | ⟨j, hj, e⟩
    · exact absurd h1 (Int32.not_le.mpr h4)
    · exact absurd h3 (Int32.not_lt.mpr h4)
    · exact ⟨j, hj, e⟩
  · rintro ⟨k, hk, rfl⟩
    exact ⟨nI_pos' (by omega), nI_lt hk (by omega)⟩
theorem c_X2_lineAt (hW : KF ad L) (hfl : l.stackTraces = false) (h : XR hp n inp an lc cl ex pr gt) (hlc : lc ≤ 10) (x : Int32) : KX l yX2_lineAt cX2_lineAt 2 (some (.object "GatePolynomials$Polynomial")) (rmK 7 2 12) D dA ad sa L [.ref 0, .int x] hp (fun r hp' => ∃ k, k < lc ∧ x = nI k ∧ r = some (.ref (34 + 2 * k)) ∧ hp' = hp) (fun E hp' => ((lc = 0 ∧ E = ISE) ∨ (¬ lc = 0 ∧ lineB lc x = false ∧ E = IOB)) ∧ hp' = hp) := by
  refine KX.of rfl ok_X2_lineAt (len_of rfl) hW.1.1 hW.1.2 ?_
  intro p e s m args below meth c A hC hN hE
  have h0 := hW.2 0 (by decide)
  refine g_run hC 1 rfl ?_
  refine g_callVX hC hN hE (by decide) (fun E hp' q => ⟨Or.inl ⟨q.1, q.2.1⟩, q.2.2⟩) [] (c_X2_refuseWithout hW hfl h (by omega)) rfl M_X2_136 h0 h.1 rfl rfl (len_of rfl) (by decide) (by decide) ?_
  rintro r hp1 ⟨hl0, rfl, rfl⟩
  refine g_run hC 1 rfl ?_
  refine g_iflt (tgt := 16) hC rfl (by decide) (fun h1 => ?_) (fun h1 => ?_)
  · refine g_throw hC hN hE hfl T_120_160_124 rfl rfl rfl rfl rfl (by decide) (by decide) (by decide) ⟨Or.inr ⟨hl0, ?_, rfl⟩, rfl⟩
    unfold lineB
    rw [decide_eq_false (Int32.not_le.mpr h1)]; rfl
  · refine g_run hC 2 rfl ?_
    refine g_get hC rfl F_X2_113 h0 h.1 rfl ?_
    refine g_iclt (tgt := 26) hC rfl (by decide) (fun h2 => ?_) (fun h2 => ?_)
    · obtain ⟨k, hk, rfl⟩ := (lineB_iff hlc).mp (show lineB lc x = true by unfold lineB; rw [decide_eq_true (Int32.not_lt.mp h1), decide_eq_true h2]; rfl)
      refine g_run hC 1 rfl ?_
      refine g_get hC rfl F_X2_22 h0 h.1 rfl ?_
      refine g_run hC 1 rfl ?_
      refine g_ald (C := RX1) (t := 3) hC k rfl (hW.2 4 (by decide)) h.2.2.1 rfl rfl (by omega) (by decide) rfl ?_
      exact gx_aret hC rfl rfl ⟨k, hk, rfl, rfl, rfl⟩ (by decide) (by decide)
    · refine g_throw hC hN hE hfl T_120_160_124 rfl rfl rfl rfl rfl (by decide) (by decide) (by decide) ⟨Or.inr ⟨hl0, ?_, rfl⟩, rfl⟩
      unfold lineB
      rw [decide_eq_false (p := x < nI lc) h2, Bool.and_false]
/-! the face -/
theorem c_X2_input (hW : KF ad L) (hfl : l.stackTraces = false) (h : XR hp n inp an lc cl ex pr gt) (hg : XG n inp gt) : KX l yX2_input cX2_input 1 (some .int) (rmK 7 1 6) D dA ad sa L [.ref 0] hp (fun r hp' => n < 9 ∧ r = some (.int (nI (n + 1))) ∧ XR hp' (n + 1) (inp ||| 2 ^ n) an 0 cl ex pr gt ∧ FX hp hp') (fun E hp' => n = 9 ∧ E = ISE ∧ hp' = hp) := by
  refine KX.of rfl ok_X2_input (len_of rfl) hW.1.1 hW.1.2 ?_
  intro p e s m args below meth c A hC hN hE
  have h0 := hW.2 0 (by decide)
  refine g_run hC 1 rfl ?_
  refine g_callVX hC hN hE (by decide) (fun E hp' q => q) [] (c_X2_refuseTenth hW hfl h hg.1) rfl M_X2_30 h0 h.1 rfl rfl (len_of rfl) (by decide) (by decide) ?_
  rintro r hp1 ⟨hn9, rfl, rfl⟩
  refine g_run hC 2 rfl ?_
  refine g_get hC rfl F_X2_33 h0 h.1 rfl ?_
  refine g_run hC 1 rfl ?_
  refine g_get hC rfl F_X2_37 h0 h.1 rfl ?_
  refine g_run hC 2 rfl ?_
  refine g_top (nI (n + 1)) (nI_s n) ?_
  refine g_callS hC hN [.int (nI (n + 1))] (c_X2_bitOf hW hp1 (n + 1) (by omega) (by omega)) rfl M_X2_40 rfl (len_of rfl) (by decide) (by decide) ?_
  rintro r hp2 ⟨rfl, rfl⟩
  refine g_run hC 1 rfl ?_
  refine g_top (nI (inp ||| 2 ^ n)) (nI_or _ _) ?_
  refine g_putI hC rfl F_X2_33 h0 h.1 (len_of rfl) rfl rfl ?_
  have h1 : XR (va_up hp2 0 (XObj n (inp ||| 2 ^ n) an lc)) n (inp ||| 2 ^ n) an lc cl ex pr gt := h.obj
  refine g_run hC 1 rfl ?_
  refine g_callV hC hN [] (c_X2_countNewWire hW h1) rfl M_X2_44 h0 h1.1 rfl rfl (len_of rfl) (by decide) (by decide) ?_
  rintro r hp3 ⟨rfl, h2, h3⟩
  exact gx_iret hC rfl rfl ⟨hn9, rfl, h2, (FX.up (by decide)).tr h3⟩ (by decide) (by decide)
theorem c_X2_wires (hW : KF ad L) (h : XR hp n inp an lc cl ex pr gt) : KM l yX2_wires cX2_wires 1 (some .int) (rmK 0 0 0) D dA ad sa L [.ref 0] hp (fun r hp' => r = some (.int (nI n)) ∧ hp' = hp) := by
  refine KM.of rfl ok_X2_wires (len_of rfl) hW.1.1 hW.1.2 ?_
  intro p e s m args below meth c A hC hN
  refine g_run hC 1 rfl ?_
  refine g_get hC rfl F_X2_37 (hW.2 0 (by decide)) h.1 rfl ?_
  exact g_iret hC rfl rfl ⟨rfl, rfl⟩ (Nat.le_refl _) (Nat.le_refl _)
theorem c_X2_lines (hW : KF ad L) (h : XR hp n inp an lc cl ex pr gt) : KM l yX2_lines cX2_lines 1 (some .int) (rmK 0 0 0) D dA ad sa L [.ref 0] hp (fun r hp' => r = some (.int (nI lc)) ∧ hp' = hp) := by
  refine KM.of rfl ok_X2_lines (len_of rfl) hW.1.1 hW.1.2 ?_
  intro p e s m args below meth c A hC hN
  refine g_run hC 1 rfl ?_
  refine g_get hC rfl F_X2_113 (hW.2 0 (by decide)) h.1 rfl ?_
  exact g_iret hC rfl rfl ⟨rfl, rfl⟩ (Nat.le_refl _) (Nat.le_refl _)
/-- a gate may be made of this -/
def gateB (n : Nat) (kd a b c : Int32) : Bool := decide (0 ≤ kd) && decide (kd ≤ nI 3) && litB n a && litB n b && (decide (kd < nI 2) || litB n c)
theorem kd_of {kd : Int32} (h : 0 ≤ kd) (h2 : kd ≤ nI 3) : ∃ k, k < 4 ∧ kd = nI k := by
  rcases pk_ix kd (n := 4) (by decide) with h4 | h4 | ⟨j, hj, e⟩
  · exact absurd h (Int32.not_le.mpr h4)
  · have h5 : nI 4 ≤ nI 3 := Int32.le_trans h4 h2
    exact absurd h5 (by decide)
  · exact ⟨j, hj, e⟩
theorem c_X2_gate (hW : KF ad L) (hfl : l.stackTraces = false) (h : XR hp n inp an lc cl ex pr gt) (hg : XG n inp gt) (x a b d : Int32) : KX l yX2_gate cX2_gate 7 (some .int) (rmK 7 1 6) D dA ad sa L [.ref 0, .int x, .int a, .int b, .int d] hp
    (fun r hp' => gateB n x a b d = true ∧ n < 9 ∧ r = some (.int (nI (n + 1))) ∧ ∃ k a1 b1 c1, k < 4 ∧ a1 < 2 * n + 2 ∧ b1 < 2 * n + 2 ∧ c1 < 2 * n + 2 ∧ x = nI k ∧ a = nI a1 ∧ b = nI b1 ∧ (2 ≤ k → d = nI c1) ∧ XR hp' (n + 1) inp an 0 cl ex pr (va_up gt n (k, a1, b1, c1, gV a1 b1 c1, gT k a1 b1 c1)) ∧ FX hp hp')
    (fun E hp' => ((gateB n x a b d = false ∧ E = IAE) ∨ (gateB n x a b d = true ∧ n = 9 ∧ E = ISE)) ∧ hp' = hp) := by
  refine KX.of rfl ok_X2_gate (len_of rfl) hW.1.1 hW.1.2 ?_
  intro p e s m args below meth c A hC hN hE
  have h0 := hW.2 0 (by decide)
  have hn := hg.1
  refine g_run hC 1 rfl ?_
  -- the two bools
  refine g_cut hp 14 [(0, .ref 0), (1, .int x), (2, .int a), (3, .int b), (4, .int d)] [.int (bI (decide (0 ≤ x) && decide (x ≤ nI 3)))] ?_ (fun t1 => ?_)
  · refine g_run hC 3 rfl ?_
    refine g_cut hp 31 [(0, .ref 0), (1, .int x), (2, .int a), (3, .int b), (4, .int d), (5, .int (bI (decide (0 ≤ x) && decide (x ≤ nI 3))))] [.int (bI (decide (x = nI 2) || decide (x = nI 3)))] ?_ (fun t2 => ?_)
    · refine g_run hC 2 rfl ?_
      cases hK : (decide (0 ≤ x) && decide (x ≤ nI 3)) with
      | false =>
        refine g_ifeq (tgt := 68) hC rfl (by decide) (fun _ => ?_) (fun h1 => absurd rfl h1)
        exact g_throw hC hN hE hfl T_52_54_56 rfl rfl rfl rfl rfl (by decide) (by decide) (by decide) ⟨Or.inl ⟨by unfold gateB; rw [hK]; rfl, rfl⟩, rfl⟩
      | true =>
        have hKK := hK
        simp only [Bool.and_eq_true, decide_eq_true_eq] at hKK
        obtain ⟨k, hk, rfl⟩ := kd_of hKK.1 hKK.2
        have hT : (decide (nI k = nI 2) || decide (nI k = nI 3)) = decide (2 ≤ k) := by
          rcases (show k = 0 ∨ k = 1 ∨ k = 2 ∨ k = 3 by omega) with rfl | rfl | rfl | rfl <;> decide
        have hT2 : decide (nI k < nI 2) = !decide (2 ≤ k) := by
          rcases (show k = 0 ∨ k = 1 ∨ k = 2 ∨ k = 3 by omega) with rfl | rfl | rfl | rfl <;> decide
        rw [hT]
        refine g_ifeq (tgt := 68) hC rfl (by decide) (fun h1 => absurd h1 (by decide)) (fun _ => ?_)
        refine g_run hC 2 rfl ?_
        refine g_callV hC hN [.int a] (c_X2_isLiteral hW h a) rfl M_X2_48 h0 h.1 rfl rfl (len_of rfl) (by decide) (by decide) ?_
        rintro r hp1 ⟨rfl, rfl⟩
        cases hla : litB n a with
        | false =>
          refine g_ifeq (tgt := 68) hC rfl (by decide) (fun _ => ?_) (fun h1 => absurd rfl h1)
          exact g_throw hC hN hE hfl T_52_54_56 rfl rfl rfl rfl rfl (by decide) (by decide) (by decide) ⟨Or.inl ⟨by unfold gateB; rw [hK, hla]; rfl, rfl⟩, rfl⟩
        | true =>
          refine g_ifeq (tgt := 68) hC rfl (by decide) (fun h1 => absurd h1 (by decide)) (fun _ => ?_)
          refine g_run hC 2 rfl ?_
          refine g_callV hC hN [.int b] (c_X2_isLiteral hW h b) rfl M_X2_48 h0 h.1 rfl rfl (len_of rfl) (by decide) (by decide) ?_
          rintro r hp2 ⟨rfl, rfl⟩
          cases hlb : litB n b with
          | false =>
            refine g_ifeq (tgt := 68) hC rfl (by decide) (fun _ => ?_) (fun h1 => absurd rfl h1)
            exact g_throw hC hN hE hfl T_52_54_56 rfl rfl rfl rfl rfl (by decide) (by decide) (by decide) ⟨Or.inl ⟨by unfold gateB; rw [hK, hla, hlb]; rfl, rfl⟩, rfl⟩
          | true =>
            obtain ⟨a1, ha1, rfl⟩ := (litB_iff hn).mp hla
            obtain ⟨b1, hb1, rfl⟩ := (litB_iff hn).mp hlb
            refine g_ifeq (tgt := 68) hC rfl (by decide) (fun h1 => absurd h1 (by decide)) (fun _ => ?_)
            refine g_run hC 1 rfl ?_
            -- behind the tests
            refine g_cutA (ι := Nat) (fun c1 => c1 < 2 * n + 2 ∧ (2 ≤ k → d = nI c1) ∧ (¬ 2 ≤ k → c1 = 0) ∧ gateB n (nI k) (nI a1) (nI b1) d = true) (fun _ => hp2) 78 (fun _ => [(0, .ref 0), (1, .int (nI k)), (2, .int (nI a1)), (3, .int (nI b1)), (4, .int d), (6, .int (bI (decide (2 ≤ k))))]) (fun _ => []) ?_ (fun t78 => ?_)
            · rintro c1 ⟨hc1, hd1, hd0, hgb⟩
              refine g_run hC 1 rfl ?_
              refine g_callVX hC hN hE (by decide) (fun E hp' q => ⟨Or.inr ⟨hgb, q.1, q.2.1⟩, q.2.2⟩) [] (c_X2_refuseTenth hW hfl h hn) rfl M_X2_30 h0 h.1 rfl rfl (len_of rfl) (by decide) (by decide) ?_
              rintro r hp3 ⟨hn9, rfl, rfl⟩
              refine g_run hC 1 rfl ?_
              refine g_get hC rfl F_X2_11 h0 h.1 rfl ?_
              refine g_run hC 1 rfl ?_
              refine g_get hC rfl F_X2_37 h0 h.1 rfl ?_
              refine g_ald (C := RX0) (t := 2) hC n rfl (hW.2 1 (by decide)) h.2.1 rfl rfl hn9 (by decide) rfl ?_
              refine g_run hC 4 rfl ?_
              refine g_cut hp3 105 [(0, .ref 0)] [.int (nI c1), .int (nI b1), .int (nI a1), .int (nI k), .ref (7 + 3 * n)] ?_ (fun t105 => ?_)
              · have hga := h.2.2.2.2.2.2 n hn9
                refine g_callV hC hN [.int (nI k), .int (nI a1), .int (nI b1), .int (nI c1)] (c_X0_become hW hp3 (7 + 3 * n) _ _ _ _ _ _ k a1 b1 c1 (by omega) hga hk (by omega) (by omega) (by omega)) rfl M_X2_59 (hW.2 _ (by omega)) hga.1 rfl rfl (len_of rfl) (by decide) (by decide) ?_
                rintro r hp4 ⟨rfl, rfl⟩
                have h2 := h.setgt (kd := k) (a := a1) (b := b1) (c := c1) (ts := gV a1 b1 c1) (tn := gT k a1 b1 c1) hn9
                refine g_run hC 1 rfl ?_
                refine g_callV hC hN [] (c_X2_countNewWire hW h2) rfl M_X2_44 h0 h2.1 rfl rfl (len_of rfl) (by decide) (by decide) ?_
                rintro r hp5 ⟨rfl, h3, h4⟩
                refine gx_iret hC rfl rfl ⟨hgb, hn9, rfl, k, a1, b1, c1, hk, ha1, hb1, hc1, rfl, rfl, rfl, hd1, h3, FX.tr (fun q hq => setGate_ne (by omega) (by omega) (by omega)) h4⟩ (by decide) (by decide)
              · by_cases hk2 : 2 ≤ k
                · rw [decide_eq_true hk2]
                  refine g_ifeq (tgt := 104) hC rfl (by decide) (fun h1 => absurd h1 (by decide)) (fun _ => ?_)
                  refine g_run hC 2 rfl ?_
                  refine g_cv rfl ?_ (g_lvs t105 ⟨rfl, trivial⟩)
                  rw [hd1 hk2]; rfl
                · rw [decide_eq_false hk2]
                  refine g_ifeq (tgt := 104) hC rfl (by decide) (fun _ => ?_) (fun h1 => absurd rfl h1)
                  refine g_run hC 1 rfl ?_
                  refine g_cv rfl ?_ (g_lvs t105 ⟨rfl, trivial⟩)
                  rw [hd0 hk2]; rfl
            by_cases hk2 : 2 ≤ k
            · rw [decide_eq_true hk2] at t78 hT2 ⊢
              refine g_ifeq (tgt := 78) hC rfl (by decide) (fun h1 => absurd h1 (by decide)) (fun _ => ?_)
              refine g_run hC 2 rfl ?_
              refine g_callV hC hN [.int d] (c_X2_isLiteral hW h d) rfl M_X2_48 h0 h.1 rfl rfl (len_of rfl) (by decide) (by decide) ?_
              rintro r hp3 ⟨rfl, rfl⟩
              cases hld : litB n d with
              | false =>
                refine g_ifne (tgt := 78) hC rfl (by decide) (fun h1 => absurd rfl h1) (fun _ => ?_)
                exact g_throw hC hN hE hfl T_52_54_56 rfl rfl rfl rfl rfl (by decide) (by decide) (by decide) ⟨Or.inl ⟨by unfold gateB; rw [hK, hla, hlb, hT2, hld]; rfl, rfl⟩, rfl⟩
              | true =>
                obtain ⟨c1, hc1, hd1⟩ := (litB_iff hn).mp hld
                refine g_ifne (tgt := 78) hC rfl (by decide) (fun _ => ?_) (fun h1 => absurd h1 (by decide))
                exact g_lvs (t78 c1 ⟨hc1, fun _ => hd1, fun z => absurd hk2 z, by unfold gateB; rw [hK, hla, hlb, hT2, hld]; rfl⟩) ⟨rfl, rfl, rfl, rfl, rfl, rfl, trivial⟩
            · rw [decide_eq_false hk2] at t78 hT2 ⊢
              refine g_ifeq (tgt := 78) hC rfl (by decide) (fun _ => ?_) (fun h1 => absurd rfl h1)
              exact g_lvs (t78 0 ⟨by omega, fun z => absurd z hk2, fun _ => rfl, by unfold gateB; rw [hK, hla, hlb, hT2]; rfl⟩) ⟨rfl, rfl, rfl, rfl, rfl, rfl, trivial⟩
    · refine g_iceq (tgt := 26) hC rfl (by decide) (fun h1 => ?_) (fun h1 => ?_)
      · refine g_run hC 2 rfl ?_
        refine g_cv rfl ?_ (g_lvs t2 ⟨rfl, rfl, rfl, rfl, rfl, rfl, trivial⟩)
        rw [decide_eq_true (show x = nI 2 from h1)]; rfl
      · refine g_run hC 2 rfl ?_
        refine g_icne (tgt := 30) hC rfl (by decide) (fun h2 => ?_) (fun h2 => ?_)
        · refine g_run hC 1 rfl ?_
          refine g_cv rfl ?_ (g_lvs t2 ⟨rfl, rfl, rfl, rfl, rfl, rfl, trivial⟩)
          rw [decide_eq_false (p := x = nI 2) h1, decide_eq_false (p := x = nI 3) h2]; rfl
        · refine g_run hC 2 rfl ?_
          refine g_cv rfl ?_ (g_lvs t2 ⟨rfl, rfl, rfl, rfl, rfl, rfl, trivial⟩)
          rw [decide_eq_true (p := x = nI 3) h2, Bool.or_true]; rfl
  · refine g_iflt (tgt := 13) hC rfl (by decide) (fun h1 => ?_) (fun h1 => ?_)
    · refine g_run hC 1 rfl ?_
      refine g_cv rfl ?_ (g_lvs t1 ⟨rfl, rfl, rfl, rfl, rfl, trivial⟩)
      rw [decide_eq_false (p := 0 ≤ x) (Int32.not_le.mpr h1)]; rfl
    · refine g_run hC 2 rfl ?_
      refine g_icgt (tgt := 13) hC rfl (by decide) (fun h2 => ?_) (fun h2 => ?_)
      · refine g_run hC 1 rfl ?_
        refine g_cv rfl ?_ (g_lvs t1 ⟨rfl, rfl, rfl, rfl, rfl, trivial⟩)
        rw [decide_eq_false (p := x ≤ nI 3) (Int32.not_le.mpr h2), Bool.and_false]; rfl
      · refine g_run hC 2 rfl ?_
        refine g_cv rfl ?_ (g_lvs t1 ⟨rfl, rfl, rfl, rfl, rfl, trivial⟩)
        rw [decide_eq_true (p := 0 ≤ x) (Int32.not_lt.mp h1), decide_eq_true (p := x ≤ nI 3) (Int32.not_lt.mp h2)]; rfl
end
