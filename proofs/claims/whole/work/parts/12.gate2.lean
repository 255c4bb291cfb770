def setG (hp : Nat → KE) (g : Nat) (ts : Nat → Nat) (tn : Nat → Int64) : Nat → KE := va_up (va_up hp (g + 1) (kI 8 (fun t => nI (ts t)))) (g + 2) (kJ 8 tn)
def gObj (g kd a b c : Nat) : KE := kO 0 [.int (nI kd), .int (nI a), .int (nI b), .int (nI c), .ref (g + 1), .ref (g + 2)]
def setGate (hp : Nat → KE) (g kd a b c : Nat) (ts : Nat → Nat) (tn : Nat → Int64) : Nat → KE := setG (va_up hp g (gObj g kd a b c)) g ts tn
theorem upI {f : Nat → Nat} {k v : Nat} : va_up (fun j => nI (f j)) k (nI v) = fun j => nI (va_up f k v j) := by
  funext j
  by_cases h : j = k
  · subst h; rw [va_up_self, va_up_self]
  · rw [va_up_ne _ _ h, va_up_ne _ _ h]
theorem setG_ne {hp : Nat → KE} {g k : Nat} {ts : Nat → Nat} {tn : Nat → Int64} (h1 : k ≠ g + 1) (h2 : k ≠ g + 2) : setG hp g ts tn k = hp k := by unfold setG; rw [va_up_ne _ _ h2, va_up_ne _ _ h1]
theorem setG_1 {hp : Nat → KE} {g : Nat} {ts : Nat → Nat} {tn : Nat → Int64} : setG hp g ts tn (g + 1) = kI 8 (fun t => nI (ts t)) := by unfold setG; rw [va_up_ne _ _ (by omega), va_up_self]
theorem setG_2 {hp : Nat → KE} {g : Nat} {ts : Nat → Nat} {tn : Nat → Int64} : setG hp g ts tn (g + 2) = kJ 8 tn := va_up_self _ _ _
theorem setG_setG {hp : Nat → KE} {g : Nat} {ts t2 : Nat → Nat} {tn n2 : Nat → Int64} : setG (setG hp g ts tn) g t2 n2 = setG hp g t2 n2 := by
  funext k
  by_cases h2 : k = g + 2
  · subst h2; rw [setG_2, setG_2]
  · by_cases h1 : k = g + 1
    · subst h1; rw [setG_1, setG_1]
    · rw [setG_ne h1 h2, setG_ne h1 h2, setG_ne h1 h2]
theorem setG_self {hp : Nat → KE} {g : Nat} {ts : Nat → Nat} {tn : Nat → Int64} (h1 : hp (g + 1) = kI 8 (fun t => nI (ts t))) (h2 : hp (g + 2) = kJ 8 tn) : setG hp g ts tn = hp := by
  funext k
  by_cases e2 : k = g + 2
  · subst e2; rw [setG_2, h2]
  · by_cases e1 : k = g + 1
    · subst e1; rw [setG_1, h1]
    · rw [setG_ne e1 e2]
theorem setGate_at (hp : Nat → KE) (g kd a b c : Nat) (ts : Nat → Nat) (tn : Nat → Int64) : GateAt (setGate hp g kd a b c ts tn) g kd a b c ts tn :=
  ⟨(setG_ne (by omega) (by omega)).trans (va_up_self _ _ _), setG_1, setG_2⟩
def gV (a b c t : Nat) : Nat := (t % 2) * wbit a ||| (t / 2 % 2) * wbit b ||| (t / 4 % 2) * wbit c
def gN (kd a b c t : Nat) : Int64 := lN (outc kd (litF a (t % 2)) (litF b (t / 2 % 2)) (litF c (t / 4 % 2)))
def turnN (tn : Nat → Int64) (b : Nat) : Nat → Nat → Int64
  | 0 => tn
  | i + 1 => if i &&& b = 0 then turnN tn b i else va_up (turnN tn b i) i (turnN tn b i i - turnN tn b i (i - b))
section
variable {l : Launch} {D : va_G} {dA ad sa : Nat → Nat} {L : List Nat}
theorem c_X0_setTermToValue (hW : KF ad L) (hp : Nat → KE) (g kd a b c0 : Nat) (ts : Nat → Nat) (tn : Nat → Int64) (t x y z : Nat) (hg : g + 2 < 66) (hG : GateAt hp g kd a b c0 ts tn) (hk : kd < 4) (ha : a < 20) (hb : b < 20) (hc : c0 < 20) (ht : t < 8) (hx : x < 2) (hy : y < 2) (hz : z < 2) : KM l yX0_setTermToValue cX0_setTermToValue 5 none (rmK 3 0 0) D dA ad sa L [.ref g, .int (nI t), .int (nI x), .int (nI y), .int (nI z)] hp (fun r hp' => r = none ∧ hp' = setG hp g (va_up ts t (x * wbit a ||| y * wbit b ||| z * wbit c0)) (va_up tn t (lN (outc kd (litF a x) (litF b y) (litF c0 z))))) := by
  refine KM.of rfl ok_X0_setTermToValue (len_of rfl) hW.1.1 hW.1.2 ?_
  intro p e s m args below meth c A hC hN
  have gL := hW.2 g (by omega)
  have gL1 := hW.2 (g + 1) (by omega)
  have gL2 := hW.2 (g + 2) (by omega)
  refine g_run hC 1 rfl ?_
  refine g_get hC rfl F_X0_11 gL hG.1 rfl ?_
  refine g_run hC 3 rfl ?_
  refine g_get hC rfl F_X0_23 gL hG.1 rfl ?_
  refine g_callS hC hN [.int (nI a)] (c_X0_wireBit hW hp a ha) rfl M_X0_54 rfl (len_of rfl) (by decide) (by decide) ?_
  rintro r hp' ⟨rfl, rfl⟩
  refine g_run hC 3 rfl ?_
  refine g_get hC rfl F_X0_26 gL hG.1 rfl ?_
  refine g_callS hC hN [.int (nI b)] (c_X0_wireBit hW hp' b hb) rfl M_X0_54 rfl (len_of rfl) (by decide) (by decide) ?_
  rintro r hp2 ⟨rfl, rfl⟩
  refine g_run hC 4 rfl ?_
  refine g_get hC rfl F_X0_29 gL hG.1 rfl ?_
  refine g_callS hC hN [.int (nI c0)] (c_X0_wireBit hW hp2 c0 hc) rfl M_X0_54 rfl (len_of rfl) (by decide) (by decide) ?_
  rintro r hp3 ⟨rfl, rfl⟩
  refine g_run hC 2 rfl ?_
  refine g_top (nI (x * wbit a ||| y * wbit b ||| z * wbit c0)) ?_ ?_
  · show nI x * nI (wbit a) ||| nI y * nI (wbit b) ||| nI z * nI (wbit c0) = _
    rw [pk_mul, pk_mul, pk_mul, nI_or, nI_or]
  refine g_ist hC t rfl gL1 hG.2.1 rfl ht (by decide) ?_
  rw [upI]
  have hO : (va_up hp3 (g + 1) (kI 8 fun j => nI (va_up ts t (x * wbit a ||| y * wbit b ||| z * wbit c0) j))) g = gObj g kd a b c0 := by rw [va_up_ne _ _ (by omega)]; exact hG.1
  have hG2 : GateAt (va_up hp3 (g + 1) (kI 8 fun j => nI (va_up ts t (x * wbit a ||| y * wbit b ||| z * wbit c0) j))) g kd a b c0 (va_up ts t (x * wbit a ||| y * wbit b ||| z * wbit c0)) tn := ⟨hO, va_up_self _ _ _, by rw [va_up_ne _ _ (by omega)]; exact hG.2.2⟩
  refine g_run hC 1 rfl ?_
  refine g_get hC rfl F_X0_15 gL hO rfl ?_
  refine g_run hC 3 rfl ?_
  refine g_get hC rfl F_X0_23 gL hO rfl ?_
  refine g_run hC 1 rfl ?_
  refine g_callS hC hN [.int (nI a), .int (nI x)] (c_X0_literalFor hW _ a x ha) rfl M_X0_58 rfl (len_of rfl) (by decide) (by decide) ?_
  rintro r hp4 ⟨rfl, rfl⟩
  refine g_run hC 1 rfl ?_
  refine g_get hC rfl F_X0_26 gL hO rfl ?_
  refine g_run hC 1 rfl ?_
  refine g_callS hC hN [.int (nI b), .int (nI y)] (c_X0_literalFor hW _ b y hb) rfl M_X0_58 rfl (len_of rfl) (by decide) (by decide) ?_
  rintro r hp5 ⟨rfl, rfl⟩
  refine g_run hC 1 rfl ?_
  refine g_get hC rfl F_X0_29 gL hO rfl ?_
  refine g_run hC 1 rfl ?_
  refine g_callS hC hN [.int (nI c0), .int (nI z)] (c_X0_literalFor hW _ c0 z hc) rfl M_X0_58 rfl (len_of rfl) (by decide) (by decide) ?_
  rintro r hp6 ⟨rfl, rfl⟩
  refine g_callV hC hN [.int (nI (litF a x)), .int (nI (litF b y)), .int (nI (litF c0 z))] (c_X0_outcome hW _ g kd a b c0 _ tn _ _ _ (by omega) hG2 hk (litF_lt hx) (litF_lt hy) (litF_lt hz)) rfl M_X0_44 gL hO rfl rfl (len_of rfl) (by decide) (by decide) ?_
  rintro r hp7 ⟨rfl, rfl⟩
  refine g_run hC 1 rfl ?_
  refine g_topl (lN (outc kd (litF a x) (litF b y) (litF c0 z))) (nI_l (Nat.lt_trans (outc_lt (litF_lt hx) (litF_lt hy) (litF_lt hz)) (by decide))) ?_
  refine g_lst hC t rfl gL2 hG2.2.2 rfl ht (by decide) ?_
  exact g_ret hC rfl rfl ⟨rfl, rfl⟩ (Nat.le_refl _) (Nat.le_refl _)
theorem c_X0_turn (hW : KF ad L) (hp : Nat → KE) (g kd a b0 c0 : Nat) (ts : Nat → Nat) (tn : Nat → Int64) (b : Nat) (hg : g + 2 < 66) (hG : GateAt hp g kd a b0 c0 ts tn) (hb : b = 1 ∨ b = 2 ∨ b = 4) : KM l yX0_turnValuesToNumbers cX0_turnValuesToNumbers 3 none (rmK 0 0 0) D dA ad sa L [.ref g, .int (nI b)] hp (fun r hp' => r = none ∧ hp' = setG hp g ts (turnN tn b 8)) := by
  refine KM.of rfl ok_X0_turnValuesToNumbers (len_of rfl) hW.1.1 hW.1.2 ?_
  intro p e s m args below meth c A hC hN
  have gL := hW.2 g (by omega)
  have gL2 := hW.2 (g + 2) (by omega)
  have hO : ∀ n, (setG hp g ts n) g = gObj g kd a b0 c0 := fun n => (setG_ne (by omega) (by omega)).trans hG.1
  refine g_run hC 2 rfl ?_
  refine g_loop 0 8 (fun i => setG hp g ts (turnN tn b i)) (fun i => [(0, .ref g), (1, .int (nI b)), (2, .int (nI i))]) (Nat.zero_le _) (setG_self hG.2.1 hG.2.2).symm ⟨rfl, rfl, rfl, trivial⟩ ?_ ?_
  · intro i _ hi ih
    refine g_run hC 2 rfl ?_
    refine g_icge (tgt := 37) hC rfl (by decide) (fun h => ?_) (fun _ => ?_)
    · exact absurd ((nI_leI (a := 8) (b := i) (by decide) (by omega)).mp h) (by omega)
    · refine g_run hC 3 rfl ?_
      refine g_top (nI (i &&& b)) (nI_and _ _) ?_
      have hz := nI_z (n := i &&& b) (Nat.lt_of_le_of_lt Nat.and_le_left (by omega))
      refine g_cut (setG hp g ts (turnN tn b (i + 1))) 31 [(0, .ref g), (1, .int (nI b)), (2, .int (nI i))] [] ?_ (fun tail => ?_)
      · refine g_run hC 2 rfl ?_
        exact g_lvs ih ⟨rfl, rfl, sI (nI_s i), trivial⟩
      · refine g_ifeq (tgt := 31) hC rfl (by decide) (fun h => ?_) (fun h => ?_)
        · refine g_hp ?_ (g_lvs tail ⟨rfl, rfl, rfl, trivial⟩)
          simp only [turnN]
          rw [if_pos (hz.mp h)]
        · have h0 : ¬ i &&& b = 0 := fun q => h (hz.mpr q)
          have hbi : b ≤ i := by
            rcases hb with rfl | rfl | rfl
            · exact Nat.pos_of_ne_zero (fun q => h0 (by rw [q]; rfl))
            · exact Nat.le_of_not_lt (fun q => h0 (by rcases (show i = 0 ∨ i = 1 by omega) with rfl | rfl <;> rfl))
            · exact Nat.le_of_not_lt (fun q => h0 (by rcases (show i = 0 ∨ i = 1 ∨ i = 2 ∨ i = 3 by omega) with rfl | rfl | rfl | rfl <;> rfl))
          refine g_run hC 1 rfl ?_
          refine g_get hC rfl F_X0_15 gL (hO _) rfl ?_
          refine g_run hC 2 rfl ?_
          refine g_lld hC i rfl gL2 setG_2 rfl hi (by decide) ?_
          refine g_run hC 1 rfl ?_
          refine g_get hC rfl F_X0_15 gL (hO _) rfl ?_
          refine g_run hC 3 rfl ?_
          refine g_lld hC (i - b) rfl gL2 setG_2 (pk_sub hbi) (by omega) (by decide) ?_
          refine g_run hC 1 rfl ?_
          refine g_lst hC i rfl gL2 setG_2 rfl hi (by decide) ?_
          refine g_hp ?_ (g_lvs tail ⟨rfl, rfl, rfl, trivial⟩)
          simp only [turnN]
          rw [if_neg h0]
          unfold setG
          rw [up_up]
  · refine g_run hC 2 rfl ?_
    refine g_icge (tgt := 37) hC rfl (by decide) (fun _ => ?_) (fun h => absurd (Int32.le_refl _) h)
    exact g_ret hC rfl rfl ⟨rfl, rfl⟩ (Nat.le_refl _) (Nat.le_refl _)
/-- a gate's numbers -/
def gT (kd a b c : Nat) : Nat → Int64 := turnN (turnN (turnN (gN kd a b c) 1 8) 2 8) 4 8
theorem turnN_congr {f g : Nat → Int64} {b : Nat} (h : ∀ j, j < 8 → f j = g j) : ∀ i, i ≤ 8 → ∀ j, j < 8 → turnN f b i j = turnN g b i j
  | 0, _, j, hj => h j hj
  | i + 1, hi, j, hj => by
    have ih := turnN_congr (b := b) h i (by omega)
    simp only [turnN]
    split
    · exact ih j hj
    · by_cases hji : j = i
      · subst hji; rw [va_up_self, va_up_self, ih j hj, ih (j - b) (by omega)]
      · rw [va_up_ne _ _ hji, va_up_ne _ _ hji, ih j hj]
theorem c_X0_become (hW : KF ad L) (hp : Nat → KE) (g k0 a0 b0 d0 : Nat) (ts : Nat → Nat) (tn : Nat → Int64) (kd a b c0 : Nat) (hg : g + 2 < 66) (hG : GateAt hp g k0 a0 b0 d0 ts tn) (hk : kd < 4) (ha : a < 20) (hb : b < 20) (hc : c0 < 20) : KM l yX0_become cX0_become 6 none (rmK 4 0 0) D dA ad sa L [.ref g, .int (nI kd), .int (nI a), .int (nI b), .int (nI c0)] hp (fun r hp' => r = none ∧ hp' = setGate hp g kd a b c0 (gV a b c0) (gT kd a b c0)) := by
  refine KM.of rfl ok_X0_become (len_of rfl) hW.1.1 hW.1.2 ?_
  intro p e s m args below meth c A hC hN
  have gL := hW.2 g (by omega)
  have gL1 := hW.2 (g + 1) (by omega)
  have gL2 := hW.2 (g + 2) (by omega)
  refine g_run hC 2 rfl ?_
  refine g_putI hC rfl F_X0_19 gL hG.1 (len_of rfl) rfl rfl ?_
  refine g_run hC 2 rfl ?_
  refine g_putI hC rfl F_X0_23 gL (va_up_self _ _ _) (len_of rfl) rfl rfl ?_
  refine g_run hC 2 rfl ?_
  refine g_putI hC rfl F_X0_26 gL (va_up_self _ _ _) (len_of rfl) rfl rfl ?_
  refine g_run hC 2 rfl ?_
  refine g_putI hC rfl F_X0_29 gL (va_up_self _ _ _) (len_of rfl) rfl rfl ?_
  rw [up_up, up_up, up_up]
  refine g_run hC 2 rfl ?_
  have hS : ∀ t n, GateAt (setGate hp g kd a b c0 t n) g kd a b c0 t n := fun t n => setGate_at _ _ _ _ _ _ _ _
  refine g_loop 0 8 (fun i => setGate hp g kd a b c0 (fun j => if j < i then gV a b c0 j else ts j) (fun j => if j < i then gN kd a b c0 j else tn j)) (fun i => [(0, .ref g), (1, .int (nI kd)), (5, .int (nI i))]) (Nat.zero_le _) ?_ ⟨rfl, rfl, rfl, trivial⟩ ?_ ?_
  · have e1 : (fun j => if j < 0 then gV a b c0 j else ts j) = ts := by funext j; simp
    have e2 : (fun j => if j < 0 then gN kd a b c0 j else tn j) = tn := by funext j; simp
    show va_up hp g (gObj g kd a b c0) = _
    rw [e1, e2]
    unfold setGate
    exact (setG_self ((va_up_ne _ _ (by omega)).trans hG.2.1) ((va_up_ne _ _ (by omega)).trans hG.2.2)).symm
  · intro i _ hi ih
    refine g_run hC 2 rfl ?_
    refine g_icge (tgt := 59) hC rfl (by decide) (fun h => ?_) (fun _ => ?_)
    · exact absurd ((nI_leI (a := 8) (b := i) (by decide) (by omega)).mp h) (by omega)
    · refine g_run hC 15 rfl ?_
      refine g_cv (st' := [.int (nI (i / 4 % 2)), .int (nI (i / 2 % 2)), .int (nI (i % 2)), .int (nI i), .ref g]) rfl ?_ ?_
      · have e1 : nI i &&& nI 1 = nI (i % 2) := by rw [nI_and, Nat.and_one_is_mod]
        have e2 : nI i >>> (nI 1 &&& 31) &&& nI 1 = nI (i / 2 % 2) := by rw [shr_n i hi 1 (by decide), nI_and, Nat.and_one_is_mod]
        have e3 : nI i >>> (nI 2 &&& 31) &&& nI 1 = nI (i / 4 % 2) := by rw [shr_n i hi 2 (by decide), nI_and, Nat.and_one_is_mod]
        rw [← e1, ← e2, ← e3]; rfl
      refine g_callV hC hN [.int (nI i), .int (nI (i % 2)), .int (nI (i / 2 % 2)), .int (nI (i / 4 % 2))] (c_X0_setTermToValue hW _ g kd a b c0 _ _ i _ _ _ hg (hS _ _) hk ha hb hc hi (Nat.mod_lt _ (by decide)) (Nat.mod_lt _ (by decide)) (Nat.mod_lt _ (by decide))) rfl M_X0_32 gL (hS _ _).1 rfl rfl (len_of rfl) (by decide) (by decide) ?_
      rintro r hp1 ⟨rfl, rfl⟩
      refine g_run hC 2 rfl ?_
      refine g_hp ?_ (g_lvs ih ⟨rfl, rfl, sI (nI_s i), trivial⟩)
      unfold setGate
      rw [setG_setG]
      congr 1
      · funext j
        by_cases h : j = i
        · subst h; rw [va_up_self, if_pos (by omega)]; rfl
        · rw [va_up_ne _ _ h]
          by_cases h2 : j < i
          · rw [if_pos h2, if_pos (by omega)]
          · rw [if_neg h2, if_neg (by omega)]
      · funext j
        by_cases h : j = i
        · subst h; rw [va_up_self, if_pos (by omega)]; rfl
        · rw [va_up_ne _ _ h]
          by_cases h2 : j < i
          · rw [if_pos h2, if_pos (by omega)]
          · rw [if_neg h2, if_neg (by omega)]
  · refine g_run hC 2 rfl ?_
    refine g_icge (tgt := 59) hC rfl (by decide) (fun _ => ?_) (fun h => absurd (Int32.le_refl _) h)
    refine g_run hC 2 rfl ?_
    refine g_callV hC hN [.int (nI 1)] (c_X0_turn hW _ g kd a b c0 _ _ 1 hg (hS _ _) (Or.inl rfl)) rfl M_X0_36 gL (hS _ _).1 rfl rfl (len_of rfl) (by decide) (by decide) ?_
    rintro r hp1 ⟨rfl, rfl⟩
    rw [show ∀ t n n2, setG (setGate hp g kd a b c0 t n) g t n2 = setGate hp g kd a b c0 t n2 from fun t n n2 => setG_setG]
    refine g_run hC 2 rfl ?_
    refine g_callV hC hN [.int (nI 2)] (c_X0_turn hW _ g kd a b c0 _ _ 2 hg (hS _ _) (Or.inr (Or.inl rfl))) rfl M_X0_36 gL (hS _ _).1 rfl rfl (len_of rfl) (by decide) (by decide) ?_
    rintro r hp1 ⟨rfl, rfl⟩
    rw [show ∀ t n n2, setG (setGate hp g kd a b c0 t n) g t n2 = setGate hp g kd a b c0 t n2 from fun t n n2 => setG_setG]
    refine g_run hC 2 rfl ?_
    refine g_callV hC hN [.int (nI 4)] (c_X0_turn hW _ g kd a b c0 _ _ 4 hg (hS _ _) (Or.inr (Or.inr rfl))) rfl M_X0_36 gL (hS _ _).1 rfl rfl (len_of rfl) (by decide) (by decide) ?_
    rintro r hp1 ⟨rfl, rfl⟩
    rw [show ∀ t n n2, setG (setGate hp g kd a b c0 t n) g t n2 = setGate hp g kd a b c0 t n2 from fun t n n2 => setG_setG]
    refine g_hpx (hp' := setGate hp g kd a b c0 (gV a b c0) (gT kd a b c0)) ?_ (g_ret hC rfl rfl ⟨rfl, rfl⟩ (Nat.le_refl _) (Nat.le_refl _))
    intro k
    by_cases h2 : k = g + 2
    · subst h2
      rw [(setGate_at _ _ _ _ _ _ _ _).2.2, (setGate_at _ _ _ _ _ _ _ _).2.2]
      refine KEq.J (fun j hj => ?_)
      unfold gT
      refine turnN_congr (fun j hj => turnN_congr (fun j hj => turnN_congr (fun j hj => if_pos hj) 8 (Nat.le_refl _) j hj) 8 (Nat.le_refl _) j hj) 8 (Nat.le_refl _) j hj
    · by_cases h1 : k = g + 1
      · subst h1
        rw [(setGate_at _ _ _ _ _ _ _ _).2.1, (setGate_at _ _ _ _ _ _ _ _).2.1]
        exact KEq.I (fun j hj => by rw [if_pos hj])
      · left
        unfold setGate
        rw [setG_ne h1 h2, setG_ne h1 h2]
end
