abbrev GT : Type := Nat × Nat × Nat × Nat × (Nat → Nat) × (Nat → Int64)
def XObj (n inp an lc : Nat) : KE := kO 2 [.ref 1, .int (nI n), .int (nI inp), .ref 2, .int (nI an), .ref 4, .int (nI lc), .ref 5]
def GA (hp : Nat → KE) (g : Nat) (t : GT) : Prop := GateAt hp g t.1 t.2.1 t.2.2.1 t.2.2.2.1 t.2.2.2.2.1 t.2.2.2.2.2
/-- the component's objects -/
def XR (hp : Nat → KE) (n inp an lc : Nat) (cl ex : Nat → Int64) (pr : Nat → Nat → Int64) (gt : Nat → GT) : Prop :=
  hp 0 = XObj n inp an lc ∧ hp 1 = kQ 2 9 (fun i => some (7 + 3 * i)) ∧ hp 4 = kQ 3 10 (fun i => some (34 + 2 * i)) ∧ PolyAt hp 2 cl ∧ PolyAt hp 5 ex ∧ (∀ i, i < 10 → PolyAt hp (34 + 2 * i) (pr i)) ∧ (∀ i, i < 9 → GA hp (7 + 3 * i) (gt i))
def FX (hp hp' : Nat → KE) : Prop := ∀ k, 54 ≤ k → hp' k = hp k
theorem FX.rf {hp : Nat → KE} : FX hp hp := fun _ _ => rfl
theorem FX.tr {a b c : Nat → KE} (h1 : FX a b) (h2 : FX b c) : FX a c := fun k hk => (h2 k hk).trans (h1 k hk)
theorem FX.up {hp : Nat → KE} {q : Nat} {x : KE} (h : q < 54) : FX hp (va_up hp q x) := fun k hk => va_up_ne _ _ (by omega)
theorem FX.setP {hp : Nat → KE} {q : Nat} {r : Nat → Int64} (h : q + 1 < 54) : FX hp (setP hp q r) := fun k hk => setP_ne (by omega) (by omega)
theorem PolyAt.up {hp : Nat → KE} {q k : Nat} {r : Nat → Int64} {x : KE} (h : PolyAt hp q r) (h1 : q ≠ k) (h2 : q + 1 ≠ k) : PolyAt (va_up hp k x) q r := ⟨(va_up_ne _ _ h1).trans h.1, (va_up_ne _ _ h2).trans h.2⟩
theorem GA.up {hp : Nat → KE} {g k : Nat} {t : GT} {x : KE} (h : GA hp g t) (h1 : g ≠ k) (h2 : g + 1 ≠ k) (h3 : g + 2 ≠ k) : GA (va_up hp k x) g t := ⟨(va_up_ne _ _ h1).trans h.1, (va_up_ne _ _ h2).trans h.2.1, (va_up_ne _ _ h3).trans h.2.2⟩
section
variable {hp : Nat → KE} {n inp an lc n2 inp2 an2 lc2 : Nat} {cl ex r : Nat → Int64} {pr : Nat → Nat → Int64} {gt : Nat → GT}
theorem XR.obj (h : XR hp n inp an lc cl ex pr gt) : XR (va_up hp 0 (XObj n2 inp2 an2 lc2)) n2 inp2 an2 lc2 cl ex pr gt :=
  ⟨va_up_self _ _ _, (va_up_ne _ _ (by omega)).trans h.2.1, (va_up_ne _ _ (by omega)).trans h.2.2.1, h.2.2.2.1.up (by omega) (by omega), h.2.2.2.2.1.up (by omega) (by omega), fun i hi => (h.2.2.2.2.2.1 i hi).up (by omega) (by omega), fun i hi => (h.2.2.2.2.2.2 i hi).up (by omega) (by omega) (by omega)⟩
theorem GA.keep {g q : Nat} {t : GT} (h : GA hp g t) (h1 : g ≠ q) (h2 : g ≠ q + 1) (h3 : g + 1 ≠ q) (h4 : g + 2 ≠ q) : GA (setP hp q r) g t := GateAt.keep h h1 h2 h3 h4 (by omega)
theorem XR.setcl (h : XR hp n inp an lc cl ex pr gt) : XR (setP hp 2 r) n inp an lc r ex pr gt :=
  ⟨(setP_ne (by omega) (by omega)).trans h.1, (setP_ne (by omega) (by omega)).trans h.2.1, (setP_ne (by omega) (by omega)).trans h.2.2.1, setP_at _ _ _, h.2.2.2.2.1.keep (by omega) (by omega) (by omega), fun i hi => (h.2.2.2.2.2.1 i hi).keep (by omega) (by omega) (by omega), fun i hi => (h.2.2.2.2.2.2 i hi).keep (by omega) (by omega) (by omega) (by omega)⟩
theorem XR.setex (h : XR hp n inp an lc cl ex pr gt) : XR (setP hp 5 r) n inp an lc cl r pr gt :=
  ⟨(setP_ne (by omega) (by omega)).trans h.1, (setP_ne (by omega) (by omega)).trans h.2.1, (setP_ne (by omega) (by omega)).trans h.2.2.1, h.2.2.2.1.keep (by omega) (by omega) (by omega), setP_at _ _ _, fun i hi => (h.2.2.2.2.2.1 i hi).keep (by omega) (by omega) (by omega), fun i hi => (h.2.2.2.2.2.2 i hi).keep (by omega) (by omega) (by omega) (by omega)⟩
theorem XR.setpr {j : Nat} (h : XR hp n inp an lc cl ex pr gt) (hj : j < 10) : XR (setP hp (34 + 2 * j) r) n inp an lc cl ex (va_up pr j r) gt := by
  refine ⟨(setP_ne (by omega) (by omega)).trans h.1, (setP_ne (by omega) (by omega)).trans h.2.1, (setP_ne (by omega) (by omega)).trans h.2.2.1, h.2.2.2.1.keep (by omega) (by omega) (by omega), h.2.2.2.2.1.keep (by omega) (by omega) (by omega), fun i hi => ?_, fun i hi => (h.2.2.2.2.2.2 i hi).keep (by omega) (by omega) (by omega) (by omega)⟩
  by_cases hij : i = j
  · subst hij; rw [va_up_self]; exact setP_at _ _ _
  · rw [va_up_ne _ _ hij]; exact (h.2.2.2.2.2.1 i hi).keep (by omega) (by omega) (by omega)
theorem setGate_ne {g k kd a b c : Nat} {ts : Nat → Nat} {tn : Nat → Int64} (h0 : k ≠ g) (h1 : k ≠ g + 1) (h2 : k ≠ g + 2) : setGate hp g kd a b c ts tn k = hp k := by unfold setGate; rw [setG_ne h1 h2, va_up_ne _ _ h0]
theorem XR.setgt {j kd a b c : Nat} {ts : Nat → Nat} {tn : Nat → Int64} (h : XR hp n inp an lc cl ex pr gt) (hj : j < 9) : XR (setGate hp (7 + 3 * j) kd a b c ts tn) n inp an lc cl ex pr (va_up gt j (kd, a, b, c, ts, tn)) := by
  have hP : ∀ q rr, q + 1 < 7 ∨ 34 ≤ q → PolyAt hp q rr → PolyAt (setGate hp (7 + 3 * j) kd a b c ts tn) q rr := fun q rr hq h => ⟨(setGate_ne (by omega) (by omega) (by omega)).trans h.1, (setGate_ne (by omega) (by omega) (by omega)).trans h.2⟩
  refine ⟨(setGate_ne (by omega) (by omega) (by omega)).trans h.1, (setGate_ne (by omega) (by omega) (by omega)).trans h.2.1, (setGate_ne (by omega) (by omega) (by omega)).trans h.2.2.1, hP _ _ (by omega) h.2.2.2.1, hP _ _ (by omega) h.2.2.2.2.1, fun i hi => hP _ _ (by omega) (h.2.2.2.2.2.1 i hi), fun i hi => ?_⟩
  by_cases hij : i = j
  · subst hij; rw [va_up_self]; exact setGate_at _ _ _ _ _ _ _ _
  · rw [va_up_ne _ _ hij]
    have h9 := h.2.2.2.2.2.2 i hi
    exact ⟨(setGate_ne (by omega) (by omega) (by omega)).trans h9.1, (setGate_ne (by omega) (by omega) (by omega)).trans h9.2.1, (setGate_ne (by omega) (by omega) (by omega)).trans h9.2.2⟩
end
def setB (n : Nat) (x : Int32) : Bool := decide (0 ≤ x) && decide (x < nI (2 ^ n))
def litB (n : Nat) (x : Int32) : Bool := decide (0 ≤ x) && decide (x ≤ nI (2 * n + 1))
theorem p2_lt {n : Nat} (h : n ≤ 9) : 2 ^ n ≤ 512 := Nat.pow_le_pow_right (by decide) h
theorem setB_iff {n : Nat} {x : Int32} (h : n ≤ 9) : setB n x = true ↔ ∃ k, k < 2 ^ n ∧ x = nI k := by
  have h2 := p2_lt h
  unfold setB
  simp only [Bool.and_eq_true, decide_eq_true_eq]
  constructor
  · rintro ⟨h1, h3⟩
    rcases pk_ix x (n := 2 ^ n) (by omega) with h4 | h4 | ⟨j, hj, e⟩
    · exact absurd h1 (Int32.not_le.mpr h4)
    · exact absurd h3 (Int32.not_lt.mpr h4)
    · exact ⟨j, hj, e⟩
  · rintro ⟨k, hk, rfl⟩
    exact ⟨nI_pos' (by omega), nI_lt hk (by omega)⟩
theorem litB_iff {n : Nat} {x : Int32} (h : n ≤ 9) : litB n x = true ↔ ∃ k, k < 2 * n + 2 ∧ x = nI k := by
  unfold litB
  simp only [Bool.and_eq_true, decide_eq_true_eq]
  constructor
  · rintro ⟨h1, h3⟩
    rcases pk_ix x (n := 2 * n + 2) (by omega) with h4 | h4 | ⟨j, hj, e⟩
    · exact absurd h1 (Int32.not_le.mpr h4)
    · have h5 : nI (2 * n + 2) ≤ nI (2 * n + 1) := Int32.le_trans h4 h3
      exact absurd ((nI_leI (by omega) (by omega)).mp h5) (by omega)
    · exact ⟨j, hj, e⟩
  · rintro ⟨k, hk, rfl⟩
    exact ⟨nI_pos' (by omega), nI_le (by omega) (by omega)⟩
def ISE : String := "java/lang/IllegalStateException"
def IAE : String := "java/lang/IllegalArgumentException"
def IOB : String := "java/lang/IndexOutOfBoundsException"
def AEX : String := "java/lang/ArithmeticException"
def NSE : String := "java/util/NoSuchElementException"
def simN (inp : Nat) (gt : Nat → GT) (o : Nat) : Nat → Nat
  | 0 => o
  | w + 1 => if inp &&& 2 ^ w = 0 ∧ outc (gt w).1 (litW (gt w).2.1 (simN inp gt o w)) (litW (gt w).2.2.1 (simN inp gt o w)) (litW (gt w).2.2.2.1 (simN inp gt o w)) = 1 then simN inp gt o w ||| 2 ^ w else simN inp gt o w
def gGood (i : Nat) (t : GT) : Prop := t.1 < 4 ∧ t.2.1 < 2 * i + 2 ∧ t.2.2.1 < 2 * i + 2 ∧ t.2.2.2.1 < 2 * i + 2 ∧ t.2.2.2.2.1 = gV t.2.1 t.2.2.1 t.2.2.2.1 ∧ t.2.2.2.2.2 = gT t.1 t.2.1 t.2.2.1 t.2.2.2.1
def XG (n inp : Nat) (gt : Nat → GT) : Prop := n ≤ 9 ∧ inp < 2 ^ n ∧ ∀ i, i < n → inp &&& 2 ^ i = 0 → gGood i (gt i)
theorem simN_lt {inp o : Nat} {gt : Nat → GT} (ho : o < 512) : ∀ w, w ≤ 9 → simN inp gt o w < 512
  | 0, _ => ho
  | w + 1, h => by
    have ih := simN_lt (inp := inp) (gt := gt) ho w (by omega)
    simp only [simN]
    split
    · exact or_lt9 ih (Nat.pow_lt_pow_of_lt (by decide) (show w < 9 by omega))
    · exact ih
section
variable {l : Launch} {D : va_G} {dA ad sa : Nat → Nat} {L : List Nat} {hp : Nat → KE} {n inp an lc : Nat} {cl ex : Nat → Int64} {pr : Nat → Nat → Int64} {gt : Nat → GT}
theorem c_X2_isSet (hW : KF ad L) (h : XR hp n inp an lc cl ex pr gt) (hn : n ≤ 9) (x : Int32) : KM l yX2_isSet cX2_isSet 2 (some .boolean) (rmK 0 0 0) D dA ad sa L [.ref 0, .int x] hp (fun r hp' => r = some (.int (bI (setB n x))) ∧ hp' = hp) := by
  refine KM.of rfl ok_X2_isSet (len_of rfl) hW.1.1 hW.1.2 ?_
  intro p e s m args below meth c A hC hN
  have h0 := hW.2 0 (by decide)
  refine g_run hC 1 rfl ?_
  refine g_iflt (tgt := 18) hC rfl (by decide) (fun h1 => ?_) (fun h1 => ?_)
  · refine g_run hC 1 rfl ?_
    refine g_zret hC rfl rfl rfl ⟨?_, rfl⟩ (Nat.le_refl _) (Nat.le_refl _)
    unfold setB
    rw [decide_eq_false (Int32.not_le.mpr h1)]; rfl
  · refine g_run hC 3 rfl ?_
    refine g_get hC rfl F_X2_37 h0 h.1 rfl ?_
    refine g_run hC 1 rfl ?_
    refine g_top (nI (2 ^ n)) (shl_1 n (by omega)) ?_
    refine g_icge (tgt := 18) hC rfl (by decide) (fun h2 => ?_) (fun h2 => ?_)
    · refine g_run hC 1 rfl ?_
      refine g_zret hC rfl rfl rfl ⟨?_, rfl⟩ (Nat.le_refl _) (Nat.le_refl _)
      unfold setB
      rw [decide_eq_false (p := x < nI (2 ^ n)) (Int32.not_lt.mpr h2), Bool.and_false]; rfl
    · refine g_run hC 2 rfl ?_
      refine g_zret hC rfl rfl rfl ⟨?_, rfl⟩ (Nat.le_refl _) (Nat.le_refl _)
      unfold setB
      rw [decide_eq_true (Int32.not_lt.mp h1), decide_eq_true (Int32.not_le.mp h2)]; rfl
theorem c_X2_isLiteral (hW : KF ad L) (h : XR hp n inp an lc cl ex pr gt) (x : Int32) : KM l yX2_isLiteral cX2_isLiteral 2 (some .boolean) (rmK 0 0 0) D dA ad sa L [.ref 0, .int x] hp (fun r hp' => r = some (.int (bI (litB n x))) ∧ hp' = hp) := by
  refine KM.of rfl ok_X2_isLiteral (len_of rfl) hW.1.1 hW.1.2 ?_
  intro p e s m args below meth c A hC hN
  have h0 := hW.2 0 (by decide)
  refine g_run hC 1 rfl ?_
  refine g_iflt (tgt := 20) hC rfl (by decide) (fun h1 => ?_) (fun h1 => ?_)
  · refine g_run hC 1 rfl ?_
    refine g_zret hC rfl rfl rfl ⟨?_, rfl⟩ (Nat.le_refl _) (Nat.le_refl _)
    unfold litB
    rw [decide_eq_false (Int32.not_le.mpr h1)]; rfl
  · refine g_run hC 3 rfl ?_
    refine g_get hC rfl F_X2_37 h0 h.1 rfl ?_
    refine g_run hC 3 rfl ?_
    refine g_top (nI (2 * n + 1)) ?_ ?_
    · show nI 2 * nI n + nI 1 = _
      rw [pk_mul, nI_add]
    refine g_icgt (tgt := 20) hC rfl (by decide) (fun h2 => ?_) (fun h2 => ?_)
    · refine g_run hC 1 rfl ?_
      refine g_zret hC rfl rfl rfl ⟨?_, rfl⟩ (Nat.le_refl _) (Nat.le_refl _)
      unfold litB
      rw [decide_eq_false (p := x ≤ nI (2 * n + 1)) (Int32.not_le.mpr h2), Bool.and_false]; rfl
    · refine g_run hC 2 rfl ?_
      refine g_zret hC rfl rfl rfl ⟨?_, rfl⟩ (Nat.le_refl _) (Nat.le_refl _)
      unfold litB
      rw [decide_eq_true (Int32.not_lt.mp h1), decide_eq_true (Int32.not_lt.mp h2)]; rfl
theorem c_X2_isGate (hW : KF ad L) (h : XR hp n inp an lc cl ex pr gt) (w : Nat) (hi : inp < 512) (hw : w < 9) : KM l yX2_isGate cX2_isGate 2 (some .boolean) (rmK 1 0 0) D dA ad sa L [.ref 0, .int (nI (w + 1))] hp (fun r hp' => r = some (.int (bI (decide (inp &&& 2 ^ w = 0)))) ∧ hp' = hp) := by
  refine KM.of rfl ok_X2_isGate (len_of rfl) hW.1.1 hW.1.2 ?_
  intro p e s m args below meth c A hC hN
  have h0 := hW.2 0 (by decide)
  refine g_run hC 1 rfl ?_
  refine g_get hC rfl F_X2_33 h0 h.1 rfl ?_
  refine g_run hC 1 rfl ?_
  refine g_callS hC hN [.int (nI (w + 1))] (c_X2_bitOf hW hp (w + 1) (by omega) (by omega)) rfl M_X2_40 rfl (len_of rfl) (by decide) (by decide) ?_
  rintro r hp1 ⟨rfl, rfl⟩
  refine g_run hC 1 rfl ?_
  refine g_top (nI (inp &&& 2 ^ w)) (nI_and _ _) ?_
  have hz := nI_z (n := inp &&& 2 ^ w) (Nat.lt_of_le_of_lt Nat.and_le_left (by omega))
  refine g_ifne (tgt := 16) hC rfl (by decide) (fun h1 => ?_) (fun h1 => ?_)
  · refine g_run hC 1 rfl ?_
    refine g_zret hC rfl rfl rfl ⟨?_, rfl⟩ (Nat.le_refl _) (Nat.le_refl _)
    rw [decide_eq_false (fun z => h1 (hz.mpr z))]; rfl
  · refine g_run hC 2 rfl ?_
    refine g_zret hC rfl rfl rfl ⟨?_, rfl⟩ (Nat.le_refl _) (Nat.le_refl _)
    rw [decide_eq_true (hz.mp h1)]; rfl
theorem c_X2_dropProof (hW : KF ad L) (h : XR hp n inp an lc cl ex pr gt) : KM l yX2_dropProof cX2_dropProof 1 none (rmK 0 0 0) D dA ad sa L [.ref 0] hp (fun r hp' => r = none ∧ XR hp' n inp an 0 cl ex pr gt ∧ FX hp hp') := by
  refine KM.of rfl ok_X2_dropProof (len_of rfl) hW.1.1 hW.1.2 ?_
  intro p e s m args below meth c A hC hN
  refine g_run hC 2 rfl ?_
  refine g_putI hC rfl F_X2_113 (hW.2 0 (by decide)) h.1 (len_of rfl) rfl rfl ?_
  exact g_ret hC rfl rfl ⟨rfl, h.obj (lc2 := 0), FX.up (by decide)⟩ (Nat.le_refl _) (Nat.le_refl _)
theorem c_X2_countNewWire (hW : KF ad L) (h : XR hp n inp an lc cl ex pr gt) : KM l yX2_countNewWire cX2_countNewWire 1 (some .int) (rmK 1 0 0) D dA ad sa L [.ref 0] hp (fun r hp' => r = some (.int (nI (n + 1))) ∧ XR hp' (n + 1) inp an 0 cl ex pr gt ∧ FX hp hp') := by
  refine KM.of rfl ok_X2_countNewWire (len_of rfl) hW.1.1 hW.1.2 ?_
  intro p e s m args below meth c A hC hN
  have h0 := hW.2 0 (by decide)
  refine g_run hC 2 rfl ?_
  refine g_get hC rfl F_X2_37 h0 h.1 rfl ?_
  refine g_run hC 2 rfl ?_
  refine g_top (nI (n + 1)) (nI_s n) ?_
  refine g_putI hC rfl F_X2_37 h0 h.1 (len_of rfl) rfl rfl ?_
  have h1 : XR (va_up hp 0 (XObj (n + 1) inp an lc)) (n + 1) inp an lc cl ex pr gt := h.obj
  refine g_run hC 1 rfl ?_
  refine g_callV hC hN [] (c_X2_dropProof hW h1) rfl M_X2_80 h0 h1.1 rfl rfl (len_of rfl) (by decide) (by decide) ?_
  rintro r hp1 ⟨rfl, h2, h3⟩
  refine g_run hC 1 rfl ?_
  refine g_get hC rfl F_X2_37 h0 h2.1 rfl ?_
  exact g_iret hC rfl rfl ⟨rfl, h2, (FX.up (by decide)).tr h3⟩ (Nat.le_refl _) (Nat.le_refl _)
theorem c_X2_ones (hW : KF ad L) (h : XR hp n inp an lc cl ex pr gt) (hg : XG n inp gt) (o : Nat) (ho : o < 512) : KM l yX2_wiresThatAreOne cX2_wiresThatAreOne 4 (some .int) (rmK 4 0 0) D dA ad sa L [.ref 0, .int (nI o)] hp (fun r hp' => r = some (.int (nI (simN inp gt o n))) ∧ hp' = hp) := by
  refine KM.of rfl ok_X2_wiresThatAreOne (len_of rfl) hW.1.1 hW.1.2 ?_
  intro p e s m args below meth c A hC hN
  obtain ⟨hn, hi, hgd⟩ := hg
  have hi5 : inp < 512 := Nat.lt_of_lt_of_le hi (p2_lt hn)
  have h0 := hW.2 0 (by decide)
  refine g_run hC 4 rfl ?_
  refine g_loop 0 n (fun _ => hp) (fun i => [(0, .ref 0), (2, .int (nI (simN inp gt o i))), (3, .int (nI (i + 1)))]) (Nat.zero_le _) rfl ⟨rfl, rfl, rfl, trivial⟩ ?_ ?_
  · intro i _ hin ih
    have ho1 := simN_lt (inp := inp) (gt := gt) ho i (by omega)
    refine g_run hC 2 rfl ?_
    refine g_get hC rfl F_X2_37 h0 h.1 rfl ?_
    refine g_icgt (tgt := 49) hC rfl (by decide) (fun h1 => ?_) (fun _ => ?_)
    · exact absurd ((nI_ltI (a := n) (b := i + 1) (by omega) (by omega)).mp h1) (by omega)
    · refine g_run hC 2 rfl ?_
      refine g_callV hC hN [.int (nI (i + 1))] (c_X2_isGate hW h i hi5 (by omega)) rfl M_X2_98 h0 h.1 rfl rfl (len_of rfl) (by decide) (by decide) ?_
      rintro r hp1 ⟨rfl, rfl⟩
      refine g_cut hp1 43 [(0, .ref 0), (2, .int (nI (simN inp gt o (i + 1)))), (3, .int (nI (i + 1)))] [] ?_ (fun tail => ?_)
      · refine g_run hC 2 rfl ?_
        exact g_lvs ih ⟨rfl, rfl, sI (nI_s (i + 1)), trivial⟩
      · by_cases hb : inp &&& 2 ^ i = 0
        · rw [decide_eq_true hb]
          obtain ⟨g1, g2, g3, g4, -, -⟩ := hgd i hin hb
          refine g_ifeq (tgt := 43) hC rfl (by decide) (fun h1 => ?_) (fun _ => ?_)
          · exact absurd h1 (by decide)
          · refine g_run hC 1 rfl ?_
            refine g_get hC rfl F_X2_11 h0 h.1 rfl ?_
            refine g_run hC 3 rfl ?_
            refine g_ald (C := RX0) (t := 2) hC i rfl (hW.2 1 (by decide)) h.2.1 rfl (pk_sub (a := i + 1) (b := 1) (by omega)) (by omega) (by decide) rfl ?_
            refine g_run hC 1 rfl ?_
            have hga := h.2.2.2.2.2.2 i (by omega)
            refine g_callV hC hN [.int (nI (simN inp gt o i))] (c_X0_valueWhere hW hp1 (7 + 3 * i) _ _ _ _ _ _ _ (by omega) hga g1 (by omega) (by omega) (by omega) ho1) rfl M_X2_162 (hW.2 _ (by omega)) hga.1 rfl rfl (len_of rfl) (by decide) (by decide) ?_
            rintro r hp2 ⟨rfl, rfl⟩
            refine g_run hC 1 rfl ?_
            have hol := outc_lt (kd := (gt i).1) (x := litW (gt i).2.1 (simN inp gt o i)) (y := litW (gt i).2.2.1 (simN inp gt o i)) (z := litW (gt i).2.2.2.1 (simN inp gt o i)) litW_lt litW_lt litW_lt
            refine g_icne (tgt := 43) hC rfl (by decide) (fun h2 => ?_) (fun h2 => ?_)
            · refine g_lvs tail ⟨rfl, sI ?_, rfl, trivial⟩
              have h3 : ¬ outc (gt i).1 (litW (gt i).2.1 (simN inp gt o i)) (litW (gt i).2.2.1 (simN inp gt o i)) (litW (gt i).2.2.2.1 (simN inp gt o i)) = 1 := fun z => h2 (by rw [z]; rfl)
              simp only [simN]
              rw [if_neg (fun z => h3 z.2)]
            · have h3 : outc (gt i).1 (litW (gt i).2.1 (simN inp gt o i)) (litW (gt i).2.2.1 (simN inp gt o i)) (litW (gt i).2.2.2.1 (simN inp gt o i)) = 1 := (nI_eq (b := 1) (by omega) (by decide)).mp h2
              refine g_run hC 2 rfl ?_
              refine g_callS hC hN [.int (nI (i + 1))] (c_X2_bitOf hW hp2 (i + 1) (by omega) (by omega)) rfl M_X2_40 rfl (len_of rfl) (by decide) (by decide) ?_
              rintro r hp3 ⟨rfl, rfl⟩
              refine g_run hC 2 rfl ?_
              refine g_lvs tail ⟨rfl, sI ?_, rfl, trivial⟩
              simp only [simN]
              rw [if_pos ⟨hb, h3⟩]
              exact nI_or _ _
        · rw [decide_eq_false hb]
          refine g_ifeq (tgt := 43) hC rfl (by decide) (fun _ => ?_) (fun h1 => ?_)
          · refine g_lvs tail ⟨rfl, sI ?_, rfl, trivial⟩
            simp only [simN]
            rw [if_neg (fun z => hb z.1)]
          · exact absurd rfl h1
  · refine g_run hC 2 rfl ?_
    refine g_get hC rfl F_X2_37 h0 h.1 rfl ?_
    refine g_icgt (tgt := 49) hC rfl (by decide) (fun _ => ?_) (fun h1 => absurd (nI_lt (Nat.lt_succ_self n) (by omega)) h1)
    refine g_run hC 1 rfl ?_
    exact g_iret hC rfl rfl ⟨rfl, rfl⟩ (Nat.le_refl _) (Nat.le_refl _)
end
