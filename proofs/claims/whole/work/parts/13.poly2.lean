def inc (f : Nat → Int64) (k : Nat) (v : Int64) : Nat → Int64 := va_up f k (f k + v)
def addN (f : Nat → Int64) (S : Nat) (num : Int64) (ts : Nat → Nat) (tn : Nat → Int64) : Nat → Nat → Int64
  | 0 => f
  | i + 1 => inc (addN f S num ts tn i) (S ||| ts i) (num * tn i)
def elimN (row : Nat → Int64) (wb : Nat) (ts : Nat → Nat) (tn : Nat → Int64) : Nat → Nat → Int64
  | 0 => fun _ => 0
  | i + 1 => if row i = 0 then elimN row wb ts tn i else if i &&& wb = 0 then inc (elimN row wb ts tn i) i (row i) else addN (elimN row wb ts tn i) (i - wb) (row i) ts tn 8
def elimC (row : Nat → Int64) (wb : Nat) (ts : Nat → Nat) (tn : Nat → Int64) : Nat → Int64 := elimN row wb ts tn 512
def monAt (row : Nat → Int64) : Nat → Nat → Nat
  | 0, _ => 0
  | s + 1, n => if row (s + 1) = 0 then monAt row s n else if n = 0 then s + 1 else monAt row s (n - 1)
def popN (k : Nat) : Nat := k % 2 + k / 2 % 2 + k / 4 % 2 + k / 8 % 2 + k / 16 % 2 + k / 32 % 2 + k / 64 % 2 + k / 128 % 2 + k / 256 % 2
def lmN (row : Nat → Int64) : Nat → Nat × Nat
  | 0 => (0, 10)
  | i + 1 => if row i = 0 then lmN row i else if popN i < (lmN row i).2 then (i, popN i) else lmN row i
def vsN (row : Nat → Int64) (o : Nat) : Nat → Int64
  | 0 => 0
  | i + 1 => if i &&& o = i then vsN row o i + row i else vsN row o i
def eqN (f g : Nat → Int64) : Nat → Bool
  | 0 => true
  | n + 1 => eqN f g n && decide (f n = g n)
def eqR (f g : Nat → Int64) : Bool := eqN f g 512
theorem eqN_iff {f g : Nat → Int64} : ∀ {n : Nat}, eqN f g n = true ↔ ∀ i, i < n → f i = g i
  | 0 => ⟨fun _ i h => absurd h (Nat.not_lt_zero i), fun _ => rfl⟩
  | n + 1 => by
    simp only [eqN, Bool.and_eq_true, decide_eq_true_eq, eqN_iff (n := n)]
    constructor
    · rintro ⟨h1, h2⟩ i hi
      by_cases h : i = n
      · subst h; exact h2
      · exact h1 i (by omega)
    · exact fun h => ⟨fun i hi => h i (by omega), h n (by omega)⟩
theorem popN_eq : ∀ k : Nat, k < 512 → popI (nI k) = nI (popN k) := by decide +kernel
theorem popN_lt (k : Nat) : popN k < 10 := by unfold popN; omega
theorem lmN_lt (row : Nat → Int64) : ∀ i, (lmN row i).1 ≤ i ∧ (lmN row i).2 < 11
  | 0 => ⟨Nat.le_refl _, show 10 < 11 by decide⟩
  | i + 1 => by
    have := lmN_lt row i
    have h2 := popN_lt i
    simp only [lmN]
    split
    · exact ⟨by omega, this.2⟩
    · split
      · exact ⟨Nat.le_succ _, by omega⟩
      · exact ⟨by omega, this.2⟩
theorem andnot (i o : Nat) (hi : i < 512) : nI i &&& (nI o ^^^ cI (-1)) = 0 ↔ i &&& o = i := by
  have e1 : nI i &&& (nI o ^^^ cI (-1)) = 0 ↔ nI i &&& nI o = nI i := by
    rw [← Int32.toBitVec_inj, ← Int32.toBitVec_inj]
    show BitVec.ofNat 32 i &&& (BitVec.ofNat 32 o ^^^ BitVec.allOnes 32) = 0#32 ↔ BitVec.ofNat 32 i &&& BitVec.ofNat 32 o = BitVec.ofNat 32 i
    generalize BitVec.ofNat 32 i = x
    generalize BitVec.ofNat 32 o = y
    constructor
    · intro h
      apply BitVec.eq_of_getLsbD_eq
      intro j hj
      have h1 := congrArg (fun z => z.getLsbD j) h
      simp only [BitVec.getLsbD_and, BitVec.getLsbD_xor, BitVec.getLsbD_allOnes, decide_eq_true hj, BitVec.getLsbD_zero] at h1 ⊢
      revert h1
      cases x.getLsbD j <;> cases y.getLsbD j <;> decide
    · intro h
      apply BitVec.eq_of_getLsbD_eq
      intro j hj
      have h1 := congrArg (fun z => z.getLsbD j) h
      simp only [BitVec.getLsbD_and, BitVec.getLsbD_xor, BitVec.getLsbD_allOnes, decide_eq_true hj, BitVec.getLsbD_zero] at h1 ⊢
      revert h1
      cases x.getLsbD j <;> cases y.getLsbD j <;> decide
  rw [e1, nI_and]
  exact nI_eq (Nat.lt_of_le_of_lt Nat.and_le_left (by omega)) (by omega)
theorem or_lt9 {a b : Nat} (ha : a < 512) (hb : b < 512) : a ||| b < 512 := Nat.or_lt_two_pow (n := 9) ha hb
theorem and_bit_le {i n : Nat} (h : ¬ i &&& 2 ^ n = 0) : 2 ^ n ≤ i := by
  apply Nat.le_of_not_lt
  intro q
  apply h
  apply Nat.eq_of_testBit_eq
  intro j
  rw [Nat.testBit_and, Nat.testBit_two_pow, Nat.zero_testBit]
  by_cases hj : n = j
  · subst hj; rw [Nat.testBit_lt_two_pow q]; rfl
  · rw [decide_eq_false hj, Bool.and_false]
section
variable {l : Launch} {D : va_G} {dA ad sa : Nat → Nat} {L : List Nat}
theorem c_X0_addProduct (hW : KF ad L) (hp : Nat → KE) (g kd a b c0 : Nat) (ts : Nat → Nat) (tn : Nat → Int64) (q : Nat) (row : Nat → Int64) (S : Nat) (num : Int64) (hg : g + 2 < 66) (hG : GateAt hp g kd a b c0 ts tn) (hq : q + 1 < 66) (hP : PolyAt hp q row) (d1 : g ≠ q) (d2 : g ≠ q + 1) (d3 : g + 1 ≠ q) (d4 : g + 2 ≠ q) (hS : S < 512) (hts : ∀ t, t < 8 → ts t < 512) :
    KM l yX0_addProduct cX0_addProduct 6 none (rmK 1 0 0) D dA ad sa L [.ref g, .ref q, .int (nI S), .long num] hp (fun r hp' => r = none ∧ hp' = setP hp q (addN row S num ts tn 8)) := by
  refine KM.of rfl ok_X0_addProduct (len_of rfl) hW.1.1 hW.1.2 ?_
  intro p e s m args below meth c A hC hN
  have gL := hW.2 g (by omega)
  have gL1 := hW.2 (g + 1) (by omega)
  have gL2 := hW.2 (g + 2) (by omega)
  have qL := hW.2 q (by omega)
  have hGi : ∀ r, GateAt (setP hp q r) g kd a b c0 ts tn := fun r => hG.keep d1 d2 d3 d4 (by omega)
  refine g_run hC 2 rfl ?_
  refine g_loop 0 8 (fun i => setP hp q (addN row S num ts tn i)) (fun i => [(0, .ref g), (1, .ref q), (2, .int (nI S)), (3, .long num), (5, .int (nI i))]) (Nat.zero_le _) (setP_self hP).symm ⟨rfl, rfl, rfl, rfl, rfl, trivial⟩ ?_ ?_
  · intro i _ hi ih
    refine g_run hC 2 rfl ?_
    refine g_icge (tgt := 39) hC rfl (by decide) (fun h => ?_) (fun _ => ?_)
    · exact absurd ((nI_leI (a := 8) (b := i) (by decide) (by omega)).mp h) (by omega)
    · refine g_run hC 3 rfl ?_
      refine g_get hC rfl F_X0_11 gL (hGi _).1 rfl ?_
      refine g_run hC 1 rfl ?_
      refine g_ild hC i rfl gL1 (hGi _).2.1 rfl hi (by decide) ?_
      refine g_run hC 3 rfl ?_
      refine g_get hC rfl F_X0_15 gL (hGi _).1 rfl ?_
      refine g_run hC 1 rfl ?_
      refine g_lld hC i rfl gL2 (hGi _).2.2 rfl hi (by decide) ?_
      refine g_run hC 1 rfl ?_
      refine g_cv (st' := [.long (num * tn i), .int (nI (S ||| ts i)), .ref q]) rfl ?_ ?_
      · rw [← nI_or]
      refine g_callV hC hN [.int (nI (S ||| ts i)), .long (num * tn i)] (c_X1_increase hW _ q (S ||| ts i) _ (num * tn i) hq (setP_at _ _ _) (or_lt9 hS (hts i hi))) rfl M_X0_48 qL (setP_at _ _ _).1 rfl rfl (len_of rfl) (by decide) (by decide) ?_
      rintro r hp1 ⟨rfl, rfl⟩
      refine g_run hC 3 rfl ?_
      refine g_hp ?_ (g_lvs ih ⟨rfl, rfl, rfl, rfl, sI (nI_s i), trivial⟩)
      rw [setP_setP]; rfl
  · refine g_run hC 2 rfl ?_
    refine g_icge (tgt := 39) hC rfl (by decide) (fun _ => ?_) (fun h => absurd (Int32.le_refl _) h)
    exact g_ret hC rfl rfl ⟨rfl, rfl⟩ (Nat.le_refl _) (Nat.le_refl _)
theorem c_X1_erase (hW : KF ad L) (hp : Nat → KE) (q : Nat) (row : Nat → Int64) (hq : q + 1 < 66) (hP : PolyAt hp q row) : KM l yX1_erase cX1_erase 1 none (rmK 1 0 0) D dA ad sa L [.ref q] hp (fun r hp' => r = none ∧ hp' = setP hp q (fun _ => 0)) := by
  refine KM.of rfl ok_X1_erase (len_of rfl) hW.1.1 hW.1.2 ?_
  intro p e s m args below meth c A hC hN
  have qL := hW.2 q (by omega)
  refine g_run hC 1 rfl ?_
  refine g_get hC rfl F_X1_9 qL hP.1 rfl ?_
  refine g_run hC 1 rfl ?_
  refine g_callS hC hN [.ref (q + 1), .long (Int64.ofNat ((0 : Fin 2) : Nat))] (c_fill hW hp (q + 1) 512 row _ hq (by decide) hP.2) rfl M_X1_15 rfl (len_of rfl) (by decide) (by decide) ?_
  rintro r hp1 ⟨rfl, rfl⟩
  refine g_run hC 2 rfl ?_
  refine g_putI hC rfl F_X1_21 qL ((va_up_ne _ _ (by omega)).trans hP.1) (len_of rfl) rfl rfl ?_
  refine g_ret hC rfl rfl ⟨rfl, ?_⟩ (Nat.le_refl _) (Nat.le_refl _)
  unfold setP cnt
  rw [cntN_zero]
  rfl
theorem c_X1_becomeCopy (hW : KF ad L) (hp : Nat → KE) (q q2 : Nat) (row r2 : Nat → Int64) (hq : q + 1 < 66) (hP : PolyAt hp q row) (hq2 : q2 + 1 < 66) (hP2 : PolyAt hp q2 r2) (d1 : q2 ≠ q) (d2 : q2 ≠ q + 1) (d3 : q2 + 1 ≠ q) : KM l yX1_becomeCopy cX1_becomeCopy 2 none (rmK 1 0 0) D dA ad sa L [.ref q, .ref q2] hp (fun r hp' => r = none ∧ hp' = setP hp q r2) := by
  refine KM.of rfl ok_X1_becomeCopy (len_of rfl) hW.1.1 hW.1.2 ?_
  intro p e s m args below meth c A hC hN
  have qL := hW.2 q (by omega)
  have qL2 := hW.2 q2 (by omega)
  refine g_run hC 1 rfl ?_
  refine g_get hC rfl F_X1_9 qL2 hP2.1 rfl ?_
  refine g_run hC 2 rfl ?_
  refine g_get hC rfl F_X1_9 qL hP.1 rfl ?_
  refine g_run hC 2 rfl ?_
  refine g_copyl hC rfl mL_X1_25 (hW.2 (q2 + 1) hq2) (hW.2 (q + 1) hq) hP2.2 hP.2 (by decide) rfl rfl rfl (by decide) (len_of rfl) ?_
  refine g_run hC 2 rfl ?_
  refine g_get hC rfl F_X1_21 qL2 ((va_up_ne _ _ d2).trans hP2.1) rfl ?_
  refine g_putI hC rfl F_X1_21 qL ((va_up_ne _ _ (by omega)).trans hP.1) (len_of rfl) rfl rfl ?_
  refine g_hpx (hp' := setP hp q r2) ?_ (g_ret hC rfl rfl ⟨rfl, rfl⟩ (Nat.le_refl _) (Nat.le_refl _))
  intro k
  unfold setP
  by_cases h1 : k = q
  · subst h1; rw [va_up_self, va_up_self]; exact KEq.rf
  · rw [va_up_ne _ _ h1, va_up_ne _ _ h1]
    by_cases h2 : k = q + 1
    · subst h2; rw [va_up_self, va_up_self]
      refine KEq.J (fun j hj => ?_)
      rw [pk_cpy_in (Nat.zero_le _) (by omega)]
      simp
    · rw [va_up_ne _ _ h2, va_up_ne _ _ h2]; exact KEq.rf
theorem c_X1_becomeElimination (hW : KF ad L) (hp : Nat → KE) (q q2 g n : Nat) (row r2 : Nat → Int64) (kd a b c0 : Nat) (ts : Nat → Nat) (tn : Nat → Int64) (hq : q + 1 < 66) (hP : PolyAt hp q row) (hq2 : q2 + 1 < 66) (hP2 : PolyAt hp q2 r2) (hg : g + 2 < 66) (hG : GateAt hp g kd a b c0 ts tn) (d1 : q2 ≠ q) (d2 : q2 ≠ q + 1) (d3 : q2 + 1 ≠ q) (e1 : g ≠ q) (e2 : g ≠ q + 1) (e3 : g + 1 ≠ q) (e4 : g + 2 ≠ q) (hn : n < 9) (hts : ∀ t, t < 8 → ts t < 512) :
    KM l yX1_becomeElimination cX1_becomeElimination 7 none (rmK 2 0 0) D dA ad sa L [.ref q, .ref q2, .int (nI (2 ^ n)), .ref g] hp (fun r hp' => r = none ∧ hp' = setP hp q (elimC r2 (2 ^ n) ts tn)) := by
  refine KM.of rfl ok_X1_becomeElimination (len_of rfl) hW.1.1 hW.1.2 ?_
  intro p e s m args below meth c A hC hN
  have qL := hW.2 q (by omega)
  have qL2 := hW.2 q2 (by omega)
  have gL := hW.2 g (by omega)
  have hwb : 2 ^ n < 512 := Nat.pow_lt_pow_of_lt (by decide) hn
  have hPi : ∀ r, PolyAt (setP hp q r) q2 r2 := fun r => hP2.keep d1 d2 d3
  have hGi : ∀ r, GateAt (setP hp q r) g kd a b c0 ts tn := fun r => hG.keep e1 e2 e3 e4 (by omega)
  refine g_run hC 1 rfl ?_
  refine g_callV hC hN [] (c_X1_erase hW hp q row hq hP) rfl M_X1_31 qL hP.1 rfl rfl (len_of rfl) (by decide) (by decide) ?_
  rintro r hp1 ⟨rfl, rfl⟩
  refine g_run hC 2 rfl ?_
  refine g_loop 0 512 (fun i => setP hp q (elimN r2 (2 ^ n) ts tn i)) (fun i => [(0, .ref q), (1, .ref q2), (2, .int (nI (2 ^ n))), (3, .ref g), (4, .int (nI i))]) (Nat.zero_le _) rfl ⟨rfl, rfl, rfl, rfl, rfl, trivial⟩ ?_ ?_
  · intro i _ hi ih
    refine g_run hC 2 rfl ?_
    refine g_icge (tgt := 74) hC rfl (by decide) (fun h => ?_) (fun _ => ?_)
    · exact absurd ((nI_leI (a := 512) (b := i) (by decide) (by omega)).mp h) (by omega)
    · refine g_run hC 1 rfl ?_
      refine g_get hC rfl F_X1_9 qL2 (hPi _).1 rfl ?_
      refine g_run hC 1 rfl ?_
      refine g_lld hC i rfl (hW.2 (q2 + 1) hq2) (hPi _).2 rfl hi (by decide) ?_
      refine g_run hC 4 rfl ?_
      refine g_cut (setP hp q (elimN r2 (2 ^ n) ts tn (i + 1))) 68 [(0, .ref q), (1, .ref q2), (2, .int (nI (2 ^ n))), (3, .ref g), (4, .int (nI i))] [] ?_ (fun tail => ?_)
      · refine g_run hC 2 rfl ?_
        exact g_lvs ih ⟨rfl, rfl, rfl, rfl, sI (nI_s i), trivial⟩
      · have hz := nI_z (n := i &&& 2 ^ n) (Nat.lt_of_le_of_lt Nat.and_le_left (by omega))
        refine g_ifeq (tgt := 50) hC rfl (by decide) (fun h => ?_) (fun h => ?_)
        · have h0 : r2 i = 0 := (cmpz _).mp h
          refine g_run hC 3 rfl ?_
          refine g_ifeq (tgt := 68) hC rfl (by decide) (fun _ => ?_) (fun h2 => absurd ((cmpz _).mpr h0) h2)
          refine g_hp ?_ (g_lvs tail ⟨rfl, rfl, rfl, rfl, rfl, trivial⟩)
          simp only [elimN]
          rw [if_pos h0]
        · have h0 : ¬ r2 i = 0 := fun z => h ((cmpz _).mpr z)
          refine g_run hC 3 rfl ?_
          refine g_top (nI (i &&& 2 ^ n)) (nI_and _ _) ?_
          refine g_ifne (tgt := 50) hC rfl (by decide) (fun h1 => ?_) (fun h1 => ?_)
          · have h2 : ¬ i &&& 2 ^ n = 0 := fun z => h1 (hz.mpr z)
            refine g_run hC 3 rfl ?_
            refine g_ifeq (tgt := 68) hC rfl (by decide) (fun h3 => absurd ((cmpz _).mp h3) h0) (fun _ => ?_)
            refine g_run hC 6 rfl ?_
            refine g_cv (st' := [.long (r2 i), .int (nI (i - 2 ^ n)), .ref q, .ref g]) rfl ?_ ?_
            · rw [← pk_sub (and_bit_le h2)]; rfl
            refine g_callV hC hN [.ref q, .int (nI (i - 2 ^ n)), .long (r2 i)] (c_X0_addProduct hW _ g kd a b c0 ts tn q _ (i - 2 ^ n) (r2 i) hg (hGi _) hq (setP_at _ _ _) e1 e2 e3 e4 (Nat.lt_of_le_of_lt (Nat.sub_le _ _) hi) hts) rfl M_X1_38 gL (hGi _).1 rfl rfl (len_of rfl) (by decide) (by decide) ?_
            rintro r hp1 ⟨rfl, rfl⟩
            refine g_hp ?_ (g_lvs tail ⟨rfl, rfl, rfl, rfl, rfl, trivial⟩)
            rw [setP_setP]
            simp only [elimN]
            rw [if_neg h0, if_neg h2]
          · have h2 : i &&& 2 ^ n = 0 := hz.mp h1
            refine g_run hC 3 rfl ?_
            refine g_callV hC hN [.int (nI i), .long (r2 i)] (c_X1_increase hW _ q i _ (r2 i) hq (setP_at _ _ _) hi) rfl M_X1_34 qL (setP_at _ _ _).1 rfl rfl (len_of rfl) (by decide) (by decide) ?_
            rintro r hp1 ⟨rfl, rfl⟩
            refine g_run hC 2 rfl ?_
            refine g_hp ?_ (g_lvs tail ⟨rfl, rfl, rfl, rfl, rfl, trivial⟩)
            rw [setP_setP]
            simp only [elimN]
            rw [if_neg h0, if_pos h2]
            rfl
  · refine g_run hC 2 rfl ?_
    refine g_icge (tgt := 74) hC rfl (by decide) (fun _ => ?_) (fun h => absurd (Int32.le_refl _) h)
    exact g_ret hC rfl rfl ⟨rfl, rfl⟩ (Nat.le_refl _) (Nat.le_refl _)
end
