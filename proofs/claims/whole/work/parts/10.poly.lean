theorem arrV_congr {cI : ClassId} {n : Nat} {F F2 : Nat → Value} (h : ∀ j, j < n → F j = F2 j) : arrV cI n F = arrV cI n F2 := by
  unfold arrV
  congr 1
  congr 1
  funext j
  exact h j.val j.isLt
/-- the same as far as an array goes -/
def KEq (x y : KE) : Prop := x = y ∨ (∃ (n : Nat) (f g : Nat → Int64), x = kJ n f ∧ y = kJ n g ∧ ∀ j, j < n → f j = g j) ∨ (∃ (n : Nat) (f g : Nat → Int32), x = kI n f ∧ y = kI n g ∧ ∀ j, j < n → f j = g j)
theorem KEq.rf {x : KE} : KEq x x := Or.inl rfl
theorem KEq.J {n : Nat} {f g : Nat → Int64} (h : ∀ j, j < n → f j = g j) : KEq (kJ n f) (kJ n g) := Or.inr (Or.inl ⟨n, f, g, rfl, rfl, h⟩)
theorem KEq.I {n : Nat} {f g : Nat → Int32} (h : ∀ j, j < n → f j = g j) : KEq (kI n f) (kI n g) := Or.inr (Or.inr ⟨n, f, g, rfl, rfl, h⟩)
theorem kw_ext {D : va_G} {dA ad : Nat → Nat} {L : List Nat} {hp hp' : Nat → KE} {H : Heap} (h : ∀ k, KEq (hp k) (hp' k)) (hP : va_P D kcl (kw dA ad L hp) H) : va_P D kcl (kw dA ad L hp') H := by
  intro i q hi
  obtain ⟨k, h1, rfl⟩ := kw_at hi
  have h2 := hP i (ad k, emE dA ad (hp k)) (by simp [kw, h1])
  rcases h k with e | ⟨n, f, g, e1, e2, e3⟩ | ⟨n, f, g, e1, e2, e3⟩
  · rw [← e]; exact h2
  · rw [e1] at h2
    rw [e2]
    have h3 : H[ad k]? = some (arrV (dA 1) n (fun j => .long (f j))) := h2
    show H[ad k]? = some (arrV (dA 1) n (fun j => .long (g j)))
    rw [h3, arrV_congr (fun j hj => by rw [e3 j hj])]
  · rw [e1] at h2
    rw [e2]
    have h3 : H[ad k]? = some (arrV (dA 0) n (fun j => .int (f j))) := h2
    show H[ad k]? = some (arrV (dA 0) n (fun j => .int (g j)))
    rw [h3, arrV_congr (fun j hj => by rw [e3 j hj])]
theorem cmp0 (x y : Int64) : lg_cmp x y = 0 ↔ x = y := by
  unfold lg_cmp
  constructor
  · intro h
    split at h
    · cases h
    · split at h
      · assumption
      · cases h
  · rintro rfl
    rw [if_neg (by simp [gt_iff_lt, Int64.lt_iff_toInt_lt]), if_pos rfl]
theorem cmpz (x : Int64) : lg_cmp x (Int64.ofNat ((0 : Fin 2) : Nat)) = 0 ↔ x = 0 := cmp0 x 0
section
variable {p : Program} {l : Launch} {e : Env} {R : Room} {s : State} {m : MethodId} {args : Array Value} {below : List Frame} {meth : Method} {c : Code} {D : va_G} {dA ad sa : Nat → Nat} {L : List Nat} {A : Nat → Prop} {nL cells slots : Nat} {Q : State → Prop} {hp : Nat → KE}
theorem g_hpx {hp' : Nat → KE} {pc : Nat} {lv : List (Nat × Value)} {st : List Value} (h : ∀ k, KEq (hp k) (hp' k)) (kk : G p l e R s m args below meth c D dA ad L A nL cells slots Q hp' pc lv st) : G p l e R s m args below meth c D dA ad L A nL cells slots Q hp pc lv st :=
  fun H locs ls hP hS hl => kk H locs ls (kw_ext h hP) hS hl
/-- a place that several ways lead to -/
theorem g_cut (hp1 : Nat → KE) (pc1 : Nat) (lv1 : List (Nat × Value)) (st1 : List Value) {pc : Nat} {lv : List (Nat × Value)} {st : List Value} (t : G p l e R s m args below meth c D dA ad L A nL cells slots Q hp1 pc1 lv1 st1) (k : G p l e R s m args below meth c D dA ad L A nL cells slots Q hp1 pc1 lv1 st1 → G p l e R s m args below meth c D dA ad L A nL cells slots Q hp pc lv st) : G p l e R s m args below meth c D dA ad L A nL cells slots Q hp pc lv st := k t
end
def ush (x n : Int32) : Int32 := (x.toUInt32 >>> (n.toUInt32 &&& Int32.toUInt32 31)).toInt32
def pop1 (x : Int32) : Int32 := x - (ush x (cI 1) &&& 1431655765)
def pop2 (x : Int32) : Int32 := (x &&& 858993459) + (ush x (cI 2) &&& 858993459)
def pop3 (x : Int32) : Int32 := (x + ush x (cI 4)) &&& 252645135
def pop4 (x : Int32) : Int32 := x + ush x (cI 8)
def pop5 (x : Int32) : Int32 := x + ush x (cI 16)
def popI (x : Int32) : Int32 := pop5 (pop4 (pop3 (pop2 (pop1 x)))) &&& cI 63
section
variable {l : Launch} {D : va_G} {dA ad sa : Nat → Nat} {L : List Nat}
theorem c_bitCount (hW : KF ad L) (hp : Nat → KE) (x : Int32) : KM l yJ6_bitCount_0f7a4 cJ6_bitCount_0f7a4 1 (some .int) (rmK 0 0 0) D dA ad sa L [.int x] hp (fun r hp' => r = some (.int (popI x)) ∧ hp' = hp) := by
  refine KM.of rfl ok_J6_bitCount_0f7a4 (len_of rfl) hW.1.1 hW.1.2 ?_
  intro p e s m args below meth c A hC hN
  refine g_run hC 4 rfl ?_
  refine g_ldcw hC rfl cN_J6_265 ?_
  refine g_run hC 4 rfl ?_
  refine g_ldcw hC rfl cN_J6_266 ?_
  refine g_run hC 4 rfl ?_
  refine g_ldcw hC rfl cN_J6_266 ?_
  refine g_run hC 8 rfl ?_
  refine g_ldcw hC rfl cN_J6_267 ?_
  refine g_run hC 17 rfl ?_
  exact g_iret hC rfl rfl ⟨rfl, rfl⟩ (Nat.le_refl _) (Nat.le_refl _)
theorem c_fill (hW : KF ad L) (hp : Nat → KE) (a n : Nat) (row : Nat → Int64) (v : Int64) (ha : a < 66) (hn : n < 2 ^ 31) (hh : hp a = kJ n row) : KM l yJ7_fill_d0a16 cJ7_fill_d0a16 5 none (rmK 0 0 0) D dA ad sa L [.ref a, .long v] hp (fun r hp' => r = none ∧ hp' = va_up hp a (kJ n (fun _ => v))) := by
  refine KM.of rfl ok_J7_fill_d0a16 (len_of rfl) hW.1.1 hW.1.2 ?_
  intro p e s m args below meth c A hC hN
  have haL := hW.2 a ha
  refine g_run hC 3 rfl ?_
  refine g_alen (t := 1) (ty := .long) hC rfl haL hh rfl ?_
  refine g_run hC 1 rfl ?_
  refine g_loop 0 n (fun i => va_up hp a (kJ n (fun j => if j < i then v else row j))) (fun i => [(0, .ref a), (1, .long v), (3, .int (nI i)), (4, .int (nI n))]) (Nat.zero_le _) ?_ ⟨rfl, rfl, rfl, rfl, trivial⟩ ?_ ?_
  · funext k
    by_cases hk : k = a
    · subst hk; rw [va_up_self, hh]; simp
    · rw [va_up_ne _ _ hk]
  · intro i _ hi ih
    refine g_run hC 2 rfl ?_
    refine g_icge (tgt := 22) hC rfl (by decide) (fun h => ?_) (fun _ => ?_)
    · exact absurd ((nI_leI hn (by omega)).mp h) (by omega)
    · refine g_run hC 3 rfl ?_
      refine g_lst hC i rfl haL (va_up_self _ _ _) rfl hi hn ?_
      refine g_run hC 2 rfl ?_
      refine g_hp ?_ (g_lvs ih ⟨rfl, rfl, sI (nI_s i), rfl, trivial⟩)
      funext k
      by_cases hk : k = a
      · subst hk
        rw [va_up_self, va_up_self]
        congr 3
        funext j
        by_cases hj : j = i
        · subst hj; rw [va_up_self, if_pos (by omega)]
        · rw [va_up_ne _ _ hj]
          by_cases h2 : j < i
          · rw [if_pos h2, if_pos (by omega)]
          · rw [if_neg h2, if_neg (by omega)]
      · rw [va_up_ne _ _ hk, va_up_ne _ _ hk, va_up_ne _ _ hk]
  · refine g_run hC 2 rfl ?_
    refine g_icge (tgt := 22) hC rfl (by decide) (fun _ => ?_) (fun h => absurd (Int32.le_refl _) h)
    refine g_hpx (hp' := va_up hp a (kJ n (fun _ => v))) ?_ (g_ret hC rfl rfl ⟨rfl, rfl⟩ (Nat.le_refl _) (Nat.le_refl _))
    intro k
    by_cases hk : k = a
    · subst hk; rw [va_up_self, va_up_self]; exact KEq.J (fun j hj => if_pos hj)
    · rw [va_up_ne _ _ hk, va_up_ne _ _ hk]; exact KEq.rf
theorem c_X1_numberOf (hW : KF ad L) (hp : Nat → KE) (q k : Nat) (row : Nat → Int64) (hq : q + 1 < 66) (hP : PolyAt hp q row) (hk : k < 512) : KM l yX1_numberOf cX1_numberOf 2 (some .long) (rmK 0 0 0) D dA ad sa L [.ref q, .int (nI k)] hp (fun r hp' => r = some (.long (row k)) ∧ hp' = hp) := by
  refine KM.of rfl ok_X1_numberOf (len_of rfl) hW.1.1 hW.1.2 ?_
  intro p e s m args below meth c A hC hN
  refine g_run hC 1 rfl ?_
  refine g_get hC rfl F_X1_9 (hW.2 q (by omega)) hP.1 rfl ?_
  refine g_run hC 1 rfl ?_
  refine g_lld hC k rfl (hW.2 (q + 1) hq) hP.2 rfl hk (by omega) ?_
  exact g_lret hC rfl rfl ⟨rfl, rfl⟩ (Nat.le_refl _) (Nat.le_refl _)
theorem c_X1_monomialCount (hW : KF ad L) (hp : Nat → KE) (q : Nat) (row : Nat → Int64) (hq : q + 1 < 66) (hP : PolyAt hp q row) : KM l yX1_monomialCount cX1_monomialCount 1 (some .int) (rmK 0 0 0) D dA ad sa L [.ref q] hp (fun r hp' => r = some (.int (nI (cnt row))) ∧ hp' = hp) := by
  refine KM.of rfl ok_X1_monomialCount (len_of rfl) hW.1.1 hW.1.2 ?_
  intro p e s m args below meth c A hC hN
  refine g_run hC 1 rfl ?_
  refine g_get hC rfl F_X1_21 (hW.2 q (by omega)) hP.1 rfl ?_
  exact g_iret hC rfl rfl ⟨rfl, rfl⟩ (Nat.le_refl _) (Nat.le_refl _)
theorem up_same {hp : Nat → KE} {q : Nat} {x : KE} (h : hp q = x) : va_up hp q x = hp := by
  funext k
  by_cases hk : k = q
  · subst hk; rw [va_up_self, h]
  · rw [va_up_ne _ _ hk]
theorem up_up {hp : Nat → KE} {q : Nat} {x y : KE} : va_up (va_up hp q x) q y = va_up hp q y := by
  funext k
  by_cases hk : k = q
  · subst hk; rw [va_up_self, va_up_self]
  · rw [va_up_ne _ _ hk, va_up_ne _ _ hk, va_up_ne _ _ hk]
theorem up_comm {hp : Nat → KE} {q q2 : Nat} {x y : KE} (h : q ≠ q2) : va_up (va_up hp q x) q2 y = va_up (va_up hp q2 y) q x := by
  funext k
  by_cases hk : k = q
  · subst hk; rw [va_up_self, va_up_ne _ _ h, va_up_self]
  · by_cases hk2 : k = q2
    · subst hk2; rw [va_up_self, va_up_ne _ _ hk, va_up_self]
    · rw [va_up_ne _ _ hk, va_up_ne _ _ hk2, va_up_ne _ _ hk2, va_up_ne _ _ hk]
theorem c_X1_increase (hW : KF ad L) (hp : Nat → KE) (q k : Nat) (row : Nat → Int64) (v : Int64) (hq : q + 1 < 66) (hP : PolyAt hp q row) (hk : k < 512) : KM l yX1_increase cX1_increase 8 (some .long) (rmK 0 0 0) D dA ad sa L [.ref q, .int (nI k), .long v] hp (fun r hp' => r = some (.long (row k + v)) ∧ hp' = setP hp q (va_up row k (row k + v))) := by
  refine KM.of rfl ok_X1_increase (len_of rfl) hW.1.1 hW.1.2 ?_
  intro p e s m args below meth c A hC hN
  have q1 := hW.2 q (by omega)
  have q2 := hW.2 (q + 1) hq
  have hcu := cnt_up (f := row) (k := k) (v := row k + v) hk
  refine g_run hC 1 rfl ?_
  refine g_get hC rfl F_X1_9 q1 hP.1 rfl ?_
  refine g_run hC 1 rfl ?_
  refine g_lld hC k rfl q2 hP.2 rfl hk (by omega) ?_
  refine g_run hC 8 rfl ?_
  refine g_cut (va_up hp q (kO 1 [.ref (q + 1), .int (nI (cnt (va_up row k (row k + v))))])) 65 [(0, .ref q), (1, .int (nI k)), (6, .long (row k + v))] [] ?_ (fun tail => ?_)
  · refine g_run hC 1 rfl ?_
    refine g_get hC rfl F_X1_9 q1 (va_up_self _ _ _) rfl ?_
    refine g_run hC 2 rfl ?_
    refine g_lst hC k rfl q2 (n := 512) (f := row) (by rw [va_up_ne _ _ (by omega)]; exact hP.2) rfl hk (by omega) ?_
    refine g_run hC 1 rfl ?_
    exact g_lret hC rfl rfl ⟨rfl, by unfold setP; rw [up_comm (by omega)]⟩ (Nat.le_refl _) (Nat.le_refl _)
  · refine g_ifne (tgt := 41) hC rfl (by decide) (fun h => ?_) (fun h => ?_)
    · have h1 : ¬ row k = 0 := fun z => h ((cmpz _).mpr z)
      rw [if_neg h1] at hcu
      refine g_run hC 3 rfl ?_
      refine g_ifeq (tgt := 65) hC rfl (by decide) (fun h2 => absurd ((cmpz _).mp h2) h1) (fun _ => ?_)
      refine g_run hC 3 rfl ?_
      refine g_ifne (tgt := 65) hC rfl (by decide) (fun h3 => ?_) (fun h3 => ?_)
      · have h4 : ¬ row k + v = 0 := fun z => h3 ((cmpz _).mpr z)
        rw [if_neg h4] at hcu
        refine g_hp ?_ (g_lvs tail ⟨rfl, rfl, rfl, trivial⟩)
        rw [show cnt (va_up row k (row k + v)) = cnt row by omega]
        exact (up_same hP.1).symm
      · have h4 : row k + v = 0 := (cmpz _).mp h3
        rw [if_pos h4] at hcu
        refine g_run hC 2 rfl ?_
        refine g_get hC rfl F_X1_21 q1 hP.1 rfl ?_
        refine g_run hC 2 rfl ?_
        refine g_putI hC rfl F_X1_21 q1 hP.1 (len_of rfl) rfl rfl ?_
        refine g_hp ?_ (g_lvs tail ⟨rfl, rfl, rfl, trivial⟩)
        have h5 := pk_sub (a := cnt row) (b := 1) (by omega)
        show va_up hp q (kO 1 [.ref (q + 1), .int (nI (cnt row) - nI 1)]) = _
        rw [h5, show cnt (va_up row k (row k + v)) = cnt row - 1 by omega]
    · have h1 : row k = 0 := (cmpz _).mp h
      rw [if_pos h1] at hcu
      refine g_run hC 3 rfl ?_
      refine g_ifeq (tgt := 41) hC rfl (by decide) (fun h2 => ?_) (fun h2 => ?_)
      · have h4 : row k + v = 0 := (cmpz _).mp h2
        rw [if_pos h4] at hcu
        refine g_run hC 3 rfl ?_
        refine g_ifeq (tgt := 65) hC rfl (by decide) (fun _ => ?_) (fun h3 => absurd ((cmpz _).mpr h1) h3)
        refine g_hp ?_ (g_lvs tail ⟨rfl, rfl, rfl, trivial⟩)
        rw [show cnt (va_up row k (row k + v)) = cnt row by omega]
        exact (up_same hP.1).symm
      · have h4 : ¬ row k + v = 0 := fun z => h2 ((cmpz _).mpr z)
        rw [if_neg h4] at hcu
        refine g_run hC 2 rfl ?_
        refine g_get hC rfl F_X1_21 q1 hP.1 rfl ?_
        refine g_run hC 2 rfl ?_
        refine g_putI hC rfl F_X1_21 q1 hP.1 (len_of rfl) rfl rfl ?_
        refine g_run hC 1 rfl ?_
        refine g_hp ?_ (g_lvs tail ⟨rfl, rfl, rfl, trivial⟩)
        show va_up hp q (kO 1 [.ref (q + 1), .int (nI (cnt row) + nI 1)]) = _
        rw [nI_add, show cnt (va_up row k (row k + v)) = cnt row + 1 by omega]
end
