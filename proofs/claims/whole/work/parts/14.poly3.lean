section
variable {p : Program} {l : Launch} {e : Env} {R : Room} {s : State} {m : MethodId} {args : Array Value} {below : List Frame} {meth : Method} {c : Code} {D : va_G} {dA ad sa : Nat → Nat} {L : List Nat} {A : Nat → Prop} {nL cells slots : Nat} {Q : State → Prop} {hp : Nat → KE}
/-- any loop: a measure falls -/
theorem g_ind {σ : Type} (μ : σ → Nat) (I : σ → Prop) (hpf : σ → Nat → KE) (lvf : σ → List (Nat × Value)) {pc : Nat} {lv : List (Nat × Value)} {st : List Value} (x0 : σ) (hI : I x0) (h0 : hp = hpf x0) (l0 : lvOK lv (lvf x0))
    (step : ∀ x, I x → (∀ y, I y → μ y < μ x → G p l e R s m args below meth c D dA ad L A nL cells slots Q (hpf y) pc (lvf y) st) → G p l e R s m args below meth c D dA ad L A nL cells slots Q (hpf x) pc (lvf x) st) : G p l e R s m args below meth c D dA ad L A nL cells slots Q hp pc lv st := by
  have key : ∀ n x, I x → μ x < n → G p l e R s m args below meth c D dA ad L A nL cells slots Q (hpf x) pc (lvf x) st := by
    intro n
    induction n with
    | zero => intro x _ h; exact absurd h (Nat.not_lt_zero _)
    | succ n ih => intro x hx h; exact step x hx (fun y hy hyx => ih y hy (by omega))
  subst h0
  exact g_lvs (key (μ x0 + 1) x0 hI (Nat.lt_succ_self _)) l0
end
theorem m1_pred {n : Nat} (h : 0 < n) : nI n + cI (-1) = nI (n - 1) := by
  obtain ⟨k, rfl⟩ : ∃ k, n = k + 1 := ⟨n - 1, by omega⟩
  exact pk_m1 k
section
variable {l : Launch} {D : va_G} {dA ad sa : Nat → Nat} {L : List Nat}
theorem c_X1_monomialAt (hW : KF ad L) (hp : Nat → KE) (q n : Nat) (row : Nat → Int64) (hq : q + 1 < 66) (hP : PolyAt hp q row) (hn : n < 2 ^ 31) : KM l yX1_monomialAt cX1_monomialAt 4 (some .int) (rmK 0 0 0) D dA ad sa L [.ref q, .int (nI n)] hp (fun r hp' => r = some (.int (nI (monAt row 511 n))) ∧ hp' = hp) := by
  refine KM.of rfl ok_X1_monomialAt (len_of rfl) hW.1.1 hW.1.2 ?_
  intro p e s m args below meth c A hC hN
  have qL := hW.2 q (by omega)
  generalize hRR : monAt row 511 n = RR
  refine g_run hC 4 rfl ?_
  refine g_ind (σ := Nat × Nat) (fun x => x.1) (fun x => x.1 < 512 ∧ x.2 < 2 ^ 31 ∧ monAt row x.1 x.2 = RR) (fun _ => hp) (fun x => [(0, .ref q), (2, .int (nI x.2)), (3, .int (nI x.1))]) (511, n) ⟨show (511 : Nat) < 512 by decide, hn, hRR⟩ rfl ⟨rfl, rfl, rfl, trivial⟩ ?_
  rintro ⟨s0, n0⟩ ⟨h1, h2, h3⟩ ih
  dsimp only at h1 h2 h3 ih ⊢
  refine g_run hC 1 rfl ?_
  refine g_ifle (tgt := 36) hC rfl (by decide) (fun h => ?_) (fun h => ?_)
  · have hs : s0 = 0 := by
      have h5 : nI s0 ≤ nI 0 := h
      have := (nI_leI (a := s0) (b := 0) (by omega) (by decide)).mp h5
      omega
    subst hs
    refine g_run hC 1 rfl ?_
    refine g_iret hC rfl rfl ⟨?_, rfl⟩ (Nat.le_refl _) (Nat.le_refl _)
    rw [← h3]; rfl
  · have hs : 0 < s0 := by
      have h5 : ¬ nI s0 ≤ nI 0 := h
      exact Nat.pos_of_ne_zero (fun z => h5 (by rw [z]; exact Int32.le_refl _))
    obtain ⟨s1, rfl⟩ : ∃ k, s0 = k + 1 := ⟨s0 - 1, by omega⟩
    simp only [monAt] at h3
    refine g_run hC 1 rfl ?_
    refine g_get hC rfl F_X1_9 qL hP.1 rfl ?_
    refine g_run hC 1 rfl ?_
    refine g_lld hC (s1 + 1) rfl (hW.2 (q + 1) hq) hP.2 rfl h1 (by decide) ?_
    refine g_run hC 2 rfl ?_
    refine g_ifeq (tgt := 30) hC rfl (by decide) (fun h4 => ?_) (fun h4 => ?_)
    · have h5 : row (s1 + 1) = 0 := (cmpz _).mp h4
      rw [if_pos h5] at h3
      refine g_run hC 2 rfl ?_
      exact g_lvs (ih (s1, n0) ⟨by omega, h2, h3⟩ (by omega)) ⟨rfl, rfl, sI (m1_pred (Nat.succ_pos _)), trivial⟩
    · have h5 : ¬ row (s1 + 1) = 0 := fun z => h4 ((cmpz _).mpr z)
      rw [if_neg h5] at h3
      refine g_run hC 1 rfl ?_
      refine g_ifne (tgt := 27) hC rfl (by decide) (fun h6 => ?_) (fun h6 => ?_)
      · have h7 : ¬ n0 = 0 := fun z => h6 (by rw [z]; rfl)
        rw [if_neg h7] at h3
        refine g_run hC 3 rfl ?_
        exact g_lvs (ih (s1, n0 - 1) ⟨by omega, by omega, h3⟩ (by omega)) ⟨rfl, sI (m1_pred (by omega)), sI (m1_pred (Nat.succ_pos _)), trivial⟩
      · have h7 : n0 = 0 := (nI_z h2).mp h6
        rw [if_pos h7] at h3
        refine g_run hC 1 rfl ?_
        refine g_iret hC rfl rfl ⟨?_, rfl⟩ (Nat.le_refl _) (Nat.le_refl _)
        rw [← h3]
theorem c_X1_least (hW : KF ad L) (hp : Nat → KE) (q : Nat) (row : Nat → Int64) (hq : q + 1 < 66) (hP : PolyAt hp q row) : KM l yX1_leastMonomialOfFewestWires cX1_leastMonomialOfFewestWires 4 (some .int) (rmK 1 0 0) D dA ad sa L [.ref q] hp (fun r hp' => r = some (.int (nI (lmN row 512).1)) ∧ hp' = hp) := by
  refine KM.of rfl ok_X1_leastMonomialOfFewestWires (len_of rfl) hW.1.1 hW.1.2 ?_
  intro p e s m args below meth c A hC hN
  have qL := hW.2 q (by omega)
  refine g_run hC 6 rfl ?_
  refine g_loop 0 512 (fun _ => hp) (fun i => [(0, .ref q), (1, .int (nI (lmN row i).1)), (2, .int (nI (lmN row i).2)), (3, .int (nI i))]) (Nat.zero_le _) rfl ⟨rfl, rfl, rfl, rfl, trivial⟩ ?_ ?_
  · intro i _ hi ih
    have hlt := lmN_lt row i
    refine g_run hC 2 rfl ?_
    refine g_icge (tgt := 46) hC rfl (by decide) (fun h => ?_) (fun _ => ?_)
    · exact absurd ((nI_leI (a := 512) (b := i) (by decide) (by omega)).mp h) (by omega)
    · refine g_run hC 1 rfl ?_
      refine g_get hC rfl F_X1_9 qL hP.1 rfl ?_
      refine g_run hC 1 rfl ?_
      refine g_lld hC i rfl (hW.2 (q + 1) hq) hP.2 rfl hi (by decide) ?_
      refine g_run hC 2 rfl ?_
      refine g_cut hp 40 [(0, .ref q), (1, .int (nI (lmN row (i + 1)).1)), (2, .int (nI (lmN row (i + 1)).2)), (3, .int (nI i))] [] ?_ (fun tail => ?_)
      · refine g_run hC 2 rfl ?_
        exact g_lvs ih ⟨rfl, rfl, rfl, sI (nI_s i), trivial⟩
      · refine g_ifeq (tgt := 40) hC rfl (by decide) (fun h => ?_) (fun h => ?_)
        · have h0 : row i = 0 := (cmpz _).mp h
          have e1 : lmN row (i + 1) = lmN row i := by simp only [lmN]; rw [if_pos h0]
          rw [e1] at tail
          exact g_lvs tail ⟨rfl, rfl, rfl, rfl, trivial⟩
        · have h0 : ¬ row i = 0 := fun z => h ((cmpz _).mpr z)
          refine g_run hC 1 rfl ?_
          refine g_callS hC hN [.int (nI i)] (c_bitCount hW hp (nI i)) rfl M_X1_44 rfl (len_of rfl) (by decide) (by decide) ?_
          rintro r hp1 ⟨rfl, rfl⟩
          refine g_top (nI (popN i)) (popN_eq i hi) ?_
          refine g_run hC 1 rfl ?_
          refine g_icge (tgt := 40) hC rfl (by decide) (fun h1 => ?_) (fun h1 => ?_)
          · have h2 := (nI_leI (a := (lmN row i).2) (b := popN i) (by omega) (by have := popN_lt i; omega)).mp h1
            have e1 : lmN row (i + 1) = lmN row i := by simp only [lmN]; rw [if_neg h0, if_neg (by omega)]
            rw [e1] at tail
            exact g_lvs tail ⟨rfl, rfl, rfl, rfl, trivial⟩
          · have h2 : ¬ (lmN row i).2 ≤ popN i := fun z => h1 ((nI_leI (a := (lmN row i).2) (b := popN i) (by omega) (by have := popN_lt i; omega)).mpr z)
            have e1 : lmN row (i + 1) = (i, popN i) := by simp only [lmN]; rw [if_neg h0, if_pos (by omega)]
            rw [e1] at tail
            refine g_run hC 3 rfl ?_
            refine g_callS hC hN [.int (nI i)] (c_bitCount hW hp1 (nI i)) rfl M_X1_44 rfl (len_of rfl) (by decide) (by decide) ?_
            rintro r hp2 ⟨rfl, rfl⟩
            refine g_top (nI (popN i)) (popN_eq i hi) ?_
            refine g_run hC 1 rfl ?_
            exact g_lvs tail ⟨rfl, rfl, rfl, rfl, trivial⟩
  · refine g_run hC 2 rfl ?_
    refine g_icge (tgt := 46) hC rfl (by decide) (fun _ => ?_) (fun h => absurd (Int32.le_refl _) h)
    refine g_run hC 1 rfl ?_
    exact g_iret hC rfl rfl ⟨rfl, rfl⟩ (Nat.le_refl _) (Nat.le_refl _)
theorem c_X1_valueWhere (hW : KF ad L) (hp : Nat → KE) (q o : Nat) (row : Nat → Int64) (hq : q + 1 < 66) (hP : PolyAt hp q row) : KM l yX1_valueWhere cX1_valueWhere 5 (some .long) (rmK 0 0 0) D dA ad sa L [.ref q, .int (nI o)] hp (fun r hp' => r = some (.long (vsN row o 512)) ∧ hp' = hp) := by
  refine KM.of rfl ok_X1_valueWhere (len_of rfl) hW.1.1 hW.1.2 ?_
  intro p e s m args below meth c A hC hN
  have qL := hW.2 q (by omega)
  refine g_run hC 4 rfl ?_
  refine g_loop 0 512 (fun _ => hp) (fun i => [(0, .ref q), (1, .int (nI o)), (2, .long (vsN row o i)), (4, .int (nI i))]) (Nat.zero_le _) rfl ⟨rfl, rfl, rfl, rfl, trivial⟩ ?_ ?_
  · intro i _ hi ih
    refine g_run hC 2 rfl ?_
    refine g_icge (tgt := 38) hC rfl (by decide) (fun h => ?_) (fun _ => ?_)
    · exact absurd ((nI_leI (a := 512) (b := i) (by decide) (by omega)).mp h) (by omega)
    · refine g_run hC 5 rfl ?_
      refine g_cut hp 32 [(0, .ref q), (1, .int (nI o)), (2, .long (vsN row o (i + 1))), (4, .int (nI i))] [] ?_ (fun tail => ?_)
      · refine g_run hC 2 rfl ?_
        exact g_lvs ih ⟨rfl, rfl, rfl, sI (nI_s i), trivial⟩
      · refine g_ifne (tgt := 32) hC rfl (by decide) (fun h => ?_) (fun h => ?_)
        · have h0 : ¬ i &&& o = i := fun z => h ((andnot i o hi).mpr z)
          refine g_lvs tail ⟨rfl, rfl, sJ ?_, rfl, trivial⟩
          simp only [vsN]
          rw [if_neg h0]
        · have h0 : i &&& o = i := (andnot i o hi).mp h
          refine g_run hC 2 rfl ?_
          refine g_get hC rfl F_X1_9 qL hP.1 rfl ?_
          refine g_run hC 1 rfl ?_
          refine g_lld hC i rfl (hW.2 (q + 1) hq) hP.2 rfl hi (by decide) ?_
          refine g_run hC 2 rfl ?_
          refine g_lvs tail ⟨rfl, rfl, sJ ?_, rfl, trivial⟩
          simp only [vsN]
          rw [if_pos h0]
  · refine g_run hC 2 rfl ?_
    refine g_icge (tgt := 38) hC rfl (by decide) (fun _ => ?_) (fun h => absurd (Int32.le_refl _) h)
    refine g_run hC 1 rfl ?_
    exact g_lret hC rfl rfl ⟨rfl, rfl⟩ (Nat.le_refl _) (Nat.le_refl _)
theorem c_X1_isSameAs (hW : KF ad L) (hp : Nat → KE) (q q2 : Nat) (row r2 : Nat → Int64) (hq : q + 1 < 66) (hP : PolyAt hp q row) (hq2 : q2 + 1 < 66) (hP2 : PolyAt hp q2 r2) : KM l yX1_isSameAs cX1_isSameAs 3 (some .boolean) (rmK 0 0 0) D dA ad sa L [.ref q, .ref q2] hp (fun r hp' => r = some (.int (bI (eqR row r2))) ∧ hp' = hp) := by
  refine KM.of rfl ok_X1_isSameAs (len_of rfl) hW.1.1 hW.1.2 ?_
  intro p e s m args below meth c A hC hN
  have qL := hW.2 q (by omega)
  have qL2 := hW.2 q2 (by omega)
  refine g_run hC 1 rfl ?_
  refine g_get hC rfl F_X1_21 qL hP.1 rfl ?_
  refine g_run hC 1 rfl ?_
  refine g_get hC rfl F_X1_21 qL2 hP2.1 rfl ?_
  refine g_iceq (tgt := 13) hC rfl (by decide) (fun h => ?_) (fun h => ?_)
  · refine g_run hC 2 rfl ?_
    refine g_ind (σ := Nat) (fun x => 512 - x) (fun x => x ≤ 512 ∧ ∀ i, i < x → row i = r2 i) (fun _ => hp) (fun i => [(0, .ref q), (1, .ref q2), (2, .int (nI i))]) 0 ⟨by decide, fun i hi => absurd hi (Nat.not_lt_zero i)⟩ rfl ⟨rfl, rfl, rfl, trivial⟩ ?_
    rintro i ⟨hi, hpre⟩ ih
    refine g_run hC 2 rfl ?_
    refine g_icge (tgt := 46) hC rfl (by decide) (fun h1 => ?_) (fun h1 => ?_)
    · have h2 := (nI_leI (a := 512) (b := i) (by decide) (by omega)).mp h1
      refine g_run hC 1 rfl ?_
      refine g_zret hC rfl rfl rfl ⟨?_, rfl⟩ (Nat.le_refl _) (Nat.le_refl _)
      have e1 : eqR row r2 = true := eqN_iff.mpr (fun j hj => hpre j (by omega))
      rw [e1]; rfl
    · have h2 : ¬ 512 ≤ i := fun z => h1 ((nI_leI (a := 512) (b := i) (by decide) (by omega)).mpr z)
      refine g_run hC 1 rfl ?_
      refine g_get hC rfl F_X1_9 qL hP.1 rfl ?_
      refine g_run hC 1 rfl ?_
      refine g_lld hC i rfl (hW.2 (q + 1) hq) hP.2 rfl (by omega) (by decide) ?_
      refine g_run hC 1 rfl ?_
      refine g_get hC rfl F_X1_9 qL2 hP2.1 rfl ?_
      refine g_run hC 1 rfl ?_
      refine g_lld hC i rfl (hW.2 (q2 + 1) hq2) hP2.2 rfl (by omega) (by decide) ?_
      refine g_run hC 1 rfl ?_
      refine g_ifeq (tgt := 40) hC rfl (by decide) (fun h3 => ?_) (fun h3 => ?_)
      · refine g_run hC 2 rfl ?_
        refine g_lvs (ih (i + 1) ⟨by omega, fun j hj => ?_⟩ (by omega)) ⟨rfl, rfl, sI (nI_s i), trivial⟩
        by_cases hji : j = i
        · subst hji; exact (cmp0 _ _).mp h3
        · exact hpre j (by omega)
      · refine g_run hC 1 rfl ?_
        refine g_zret hC rfl rfl rfl ⟨?_, rfl⟩ (Nat.le_refl _) (Nat.le_refl _)
        have e1 : eqR row r2 = false := by
          cases hq9 : eqR row r2 with
          | false => rfl
          | true => exact absurd ((cmp0 _ _).mpr (eqN_iff.mp hq9 i (by omega))) h3
        rw [e1]; rfl
  · refine g_run hC 1 rfl ?_
    refine g_zret hC rfl rfl rfl ⟨?_, rfl⟩ (Nat.le_refl _) (Nat.le_refl _)
    have e1 : eqR row r2 = false := by
      cases hq9 : eqR row r2 with
      | false => rfl
      | true => exact absurd (congrArg nI (cntN_congr (eqN_iff.mp hq9))) h
    rw [e1]; rfl
end
