def passN (f : Nat → Int64) (b : Nat) : Nat → Nat → Int64
  | 0 => f
  | i + 1 => if i &&& b = 0 then passN f b i else va_up (passN f b i) i (passN f b i i - passN f b i (i ^^^ b))
def mobN (f : Nat → Int64) (N : Nat) : Nat → Nat → Int64
  | 0 => f
  | j + 1 => passN (mobN f N j) (2 ^ j) N
def spN (st : Nat → Nat) (nu : Nat → Int64) (b p : Nat) : Nat → Int64
  | 0 => 0
  | i + 1 => if st (b + i) &&& p = st (b + i) then spN st nu b p i + nu (b + i) else spN st nu b p i
def gwN (inp : Nat) : Nat → Nat → Nat
  | 0, _ => 0
  | w + 1, left => if (if inp &&& 2 ^ w = 0 then left - 1 else left) = 0 then w + 1 else gwN inp w (if inp &&& 2 ^ w = 0 then left - 1 else left)
def ngN (inp : Nat) : Nat → Nat
  | 0 => 0
  | w + 1 => if inp &&& 2 ^ w = 0 then ngN inp w + 1 else ngN inp w
theorem ngN_le (inp : Nat) : ∀ w, ngN inp w ≤ w
  | 0 => Nat.le_refl _
  | w + 1 => by
    have := ngN_le inp w
    simp only [ngN]
    split <;> omega
theorem xor_lt9 {i b n : Nat} (hi : i < 2 ^ n) (hb : b < 2 ^ n) : i ^^^ b < 2 ^ n := Nat.xor_lt_two_pow hi hb
theorem p2_mono {a b : Nat} (h : a ≤ b) : 2 ^ a ≤ 2 ^ b := Nat.pow_le_pow_right (by decide) h
theorem p2_smono {a b : Nat} (h : a < b) : 2 ^ a < 2 ^ b := Nat.pow_lt_pow_of_lt (by decide) h
section
variable {l : Launch} {D : va_G} {dA ad sa : Nat → Nat} {L : List Nat} {hp : Nat → KE} {th wi an li inp : Nat} {ki fi se tr : Nat → Int32} {cl : Nat → Int64} {si st : Nat → Nat} {nu wo fr : Nat → Int64} {gt : Nat → GT}
theorem c_X3_coefficients (hW : KF ad L) (h : MR hp th wi an li ki fi se tr cl si st nu wo fr) (hn : wi ≤ 9) : KM l yX3_coefficients cX3_coefficients 4 (some .int) (rmK 0 0 0) D dA ad sa L [.ref 54] hp
    (fun r hp' => r = some (.int (nI (cntN (mobN wo (2 ^ wi) wi) (2 ^ wi)))) ∧ MR hp' th wi an li ki fi se tr cl si st nu (mobN wo (2 ^ wi) wi) fr ∧ FM hp hp') := by
  refine KM.of rfl ok_X3_coefficients (len_of rfl) hW.1.1 hW.1.2 ?_
  intro p e s m args below meth c A hC hN
  have h0 := hW.2 54 (by decide)
  have h109 := hW.2 63 (by decide)
  have h2 := p2_lt hn
  have hU : ∀ w9 : Nat → Int64, MR (va_up hp 63 (kJ 512 w9)) th wi an li ki fi se tr cl si st nu w9 fr := fun w9 => h.s_wo
  refine g_run hC 2 rfl ?_
  refine g_get hC rfl F_X3_45 h0 h.g100 rfl ?_
  refine g_run hC 4 rfl ?_
  refine g_loop 0 wi (fun j => va_up hp 63 (kJ 512 (mobN wo (2 ^ wi) j))) (fun j => [(0, .ref 54), (1, .int (nI (2 ^ wi))), (2, .int (nI (2 ^ j)))]) (Nat.zero_le _) (up_same h.g109).symm ⟨rfl, sI (shl_1 wi (by omega)), rfl, trivial⟩ ?_ ?_
  · intro j _ hj ih
    have hpj : 2 ^ j < 2 ^ wi := p2_smono hj
    refine g_run hC 2 rfl ?_
    refine g_icge (tgt := 70) hC rfl (by decide) (fun h1 => ?_) (fun _ => ?_)
    · exact absurd ((nI_leI (a := 2 ^ wi) (b := 2 ^ j) (by omega) (by omega)).mp h1) (by omega)
    · refine g_run hC 2 rfl ?_
      refine g_loop 0 (2 ^ wi) (fun i => va_up hp 63 (kJ 512 (passN (mobN wo (2 ^ wi) j) (2 ^ j) i))) (fun i => [(0, .ref 54), (1, .int (nI (2 ^ wi))), (2, .int (nI (2 ^ j))), (3, .int (nI i))]) (Nat.zero_le _) rfl ⟨rfl, rfl, rfl, rfl, trivial⟩ ?_ ?_
      · intro i _ hi ih2
        refine g_run hC 2 rfl ?_
        refine g_icge (tgt := 63) hC rfl (by decide) (fun h1 => ?_) (fun _ => ?_)
        · exact absurd ((nI_leI (a := 2 ^ wi) (b := i) (by omega) (by omega)).mp h1) (by omega)
        · refine g_run hC 1 rfl ?_
          refine g_get hC rfl F_X3_35 h0 (hU _).g100 rfl ?_
          refine g_run hC 4 rfl ?_
          refine g_top (nI (i &&& 2 ^ j)) (nI_and _ _) ?_
          have hz := nI_z (n := i &&& 2 ^ j) (Nat.lt_of_le_of_lt Nat.and_le_left (by omega))
          refine g_cut (va_up hp 63 (kJ 512 (passN (mobN wo (2 ^ wi) j) (2 ^ j) i))) 56 [(0, .ref 54), (1, .int (nI (2 ^ wi))), (2, .int (nI (2 ^ j))), (3, .int (nI i))] [.long (passN (mobN wo (2 ^ wi) j) (2 ^ j) (i + 1) i), .int (nI i), .ref 63] ?_ (fun t56 => ?_)
          · refine g_lst hC i rfl h109 (hU _).g109 rfl (by omega) (by decide) ?_
            refine g_run hC 2 rfl ?_
            refine g_hp ?_ (g_lvs ih2 ⟨rfl, rfl, rfl, sI (nI_s i), trivial⟩)
            rw [up_up]
            simp only [passN]
            split
            · rw [show va_up (passN (mobN wo (2 ^ wi) j) (2 ^ j) i) i (passN (mobN wo (2 ^ wi) j) (2 ^ j) i i) = passN (mobN wo (2 ^ wi) j) (2 ^ j) i from by
                funext k9; by_cases hk : k9 = i
                · subst hk; rw [va_up_self]
                · rw [va_up_ne _ _ hk]]
            · rw [va_up_self]
          · refine g_ifeq (tgt := 50) hC rfl (by decide) (fun h1 => ?_) (fun h1 => ?_)
            · refine g_run hC 1 rfl ?_
              refine g_get hC rfl F_X3_35 h0 (hU _).g100 rfl ?_
              refine g_run hC 1 rfl ?_
              refine g_lld hC i rfl h109 (hU _).g109 rfl (by omega) (by decide) ?_
              refine g_cv rfl ?_ (g_lvs t56 ⟨rfl, rfl, rfl, rfl, trivial⟩)
              simp only [passN]
              rw [if_pos (hz.mp h1)]
            · have h3 : ¬ i &&& 2 ^ j = 0 := fun z => h1 (hz.mpr z)
              have h4 := xor_lt9 hi hpj
              refine g_run hC 1 rfl ?_
              refine g_get hC rfl F_X3_35 h0 (hU _).g100 rfl ?_
              refine g_run hC 1 rfl ?_
              refine g_lld hC i rfl h109 (hU _).g109 rfl (by omega) (by decide) ?_
              refine g_run hC 1 rfl ?_
              refine g_get hC rfl F_X3_35 h0 (hU _).g100 rfl ?_
              refine g_run hC 3 rfl ?_
              refine g_lld hC (i ^^^ 2 ^ j) rfl h109 (hU _).g109 (nI_xor _ _) (by omega) (by decide) ?_
              refine g_run hC 2 rfl ?_
              refine g_cv rfl ?_ (g_lvs t56 ⟨rfl, rfl, rfl, rfl, trivial⟩)
              simp only [passN]
              rw [if_neg h3, va_up_self]
      · refine g_run hC 2 rfl ?_
        refine g_icge (tgt := 63) hC rfl (by decide) (fun _ => ?_) (fun h1 => absurd (Int32.le_refl _) h1)
        refine g_run hC 5 rfl ?_
        refine g_lvs ih ⟨rfl, rfl, sI ?_, trivial⟩
        show nI 2 * nI (2 ^ j) = _
        rw [pk_mul, Nat.pow_succ, Nat.mul_comm]
  · refine g_run hC 2 rfl ?_
    refine g_icge (tgt := 70) hC rfl (by decide) (fun _ => ?_) (fun h1 => absurd (Int32.le_refl _) h1)
    generalize mobN wo (2 ^ wi) wi = w9
    refine g_run hC 4 rfl ?_
    refine g_loop 0 (2 ^ wi) (fun _ => va_up hp 63 (kJ 512 w9)) (fun i => [(0, .ref 54), (1, .int (nI (2 ^ wi))), (2, .int (nI (cntN w9 i))), (3, .int (nI i))]) (Nat.zero_le _) rfl ⟨rfl, rfl, rfl, rfl, trivial⟩ ?_ ?_
    · intro i _ hi ih
      refine g_run hC 2 rfl ?_
      refine g_icge (tgt := 104) hC rfl (by decide) (fun h1 => ?_) (fun _ => ?_)
      · exact absurd ((nI_leI (a := 2 ^ wi) (b := i) (by omega) (by omega)).mp h1) (by omega)
      · refine g_run hC 1 rfl ?_
        refine g_get hC rfl F_X3_35 h0 (hU _).g100 rfl ?_
        refine g_run hC 1 rfl ?_
        refine g_lld hC i rfl h109 (hU _).g109 rfl (by omega) (by decide) ?_
        refine g_run hC 2 rfl ?_
        refine g_cut (va_up hp 63 (kJ 512 w9)) 97 [(0, .ref 54), (1, .int (nI (2 ^ wi))), (3, .int (nI i))] [.int (nI (cntN w9 (i + 1)))] ?_ (fun t97 => ?_)
        · refine g_run hC 3 rfl ?_
          exact g_lvs ih ⟨rfl, rfl, rfl, sI (nI_s i), trivial⟩
        · refine g_ifeq (tgt := 96) hC rfl (by decide) (fun h1 => ?_) (fun h1 => ?_)
          · refine g_run hC 1 rfl ?_
            refine g_cv rfl ?_ (g_lvs t97 ⟨rfl, rfl, rfl, trivial⟩)
            simp only [cntN]
            rw [if_pos ((cmpz _).mp h1)]; rfl
          · refine g_run hC 4 rfl ?_
            refine g_top (nI (cntN w9 i + 1)) (nI_s _) ?_
            refine g_cv rfl ?_ (g_lvs t97 ⟨rfl, rfl, rfl, trivial⟩)
            simp only [cntN]
            rw [if_neg (fun z => h1 ((cmpz _).mpr z))]
    · refine g_run hC 2 rfl ?_
      refine g_icge (tgt := 104) hC rfl (by decide) (fun _ => ?_) (fun h1 => absurd (Int32.le_refl _) h1)
      refine g_run hC 1 rfl ?_
      exact g_iret hC rfl rfl ⟨rfl, hU _, FM.up (by decide) (by decide)⟩ (Nat.le_refl _) (Nat.le_refl _)
theorem c_X3_find (hW : KF ad L) (h : MR hp th wi an li ki fi se tr cl si st nu wo fr) (k s0 : Nat) (hk : k < 10) (hsz : si k ≤ 40) (hst : ∀ i, i < si k → st (40 * k + i) < 512) (hs : s0 < 512) : KM l yX3_find cX3_find 4 (some .int) (rmK 0 0 0) D dA ad sa L [.ref 54, .int (nI k), .int (nI s0)] hp
    (fun r hp' => ((∃ i, i < si k ∧ st (40 * k + i) = s0 ∧ r = some (.int (nI (40 * k + i)))) ∨ ((∀ i, i < si k → ¬ st (40 * k + i) = s0) ∧ r = some (.int (cI (-1))))) ∧ hp' = hp) := by
  refine KM.of rfl ok_X3_find (len_of rfl) hW.1.1 hW.1.2 ?_
  intro p e s m args below meth c A hC hN
  have h0 := hW.2 54 (by decide)
  refine g_run hC 4 rfl ?_
  refine g_ind (σ := Nat) (fun x => si k - x) (fun x => x ≤ si k ∧ ∀ i, i < x → ¬ st (40 * k + i) = s0) (fun _ => hp) (fun x => [(0, .ref 54), (1, .int (nI k)), (2, .int (nI s0)), (3, .int (nI (40 * k + x)))]) 0 ⟨Nat.zero_le _, fun i hi => absurd hi (Nat.not_lt_zero i)⟩ rfl ⟨rfl, rfl, rfl, sI (pk_mul 40 k), trivial⟩ ?_
  rintro x ⟨hx, hpre⟩ ih
  refine g_run hC 5 rfl ?_
  refine g_get hC rfl F_X3_26 h0 h.g100 rfl ?_
  refine g_run hC 1 rfl ?_
  refine g_ild hC k rfl (hW.2 60 (by decide)) h.g106 rfl hk (by decide) ?_
  refine g_run hC 1 rfl ?_
  refine g_top (nI (40 * k + si k)) ?_ ?_
  · show nI 40 * nI k + nI (si k) = _
    rw [pk_mul, nI_add]
  refine g_icge (tgt := 38) hC rfl (by decide) (fun h1 => ?_) (fun h1 => ?_)
  · have h2 := (nI_leI (a := 40 * k + si k) (b := 40 * k + x) (by omega) (by omega)).mp h1
    refine g_run hC 1 rfl ?_
    exact g_iret hC rfl rfl ⟨Or.inr ⟨fun i hi => hpre i (by omega), rfl⟩, rfl⟩ (Nat.le_refl _) (Nat.le_refl _)
  · have h2 : ¬ 40 * k + si k ≤ 40 * k + x := fun z => h1 ((nI_leI (a := 40 * k + si k) (b := 40 * k + x) (by omega) (by omega)).mpr z)
    have h3 := hst x (by omega)
    refine g_run hC 1 rfl ?_
    refine g_get hC rfl F_X3_29 h0 h.g100 rfl ?_
    refine g_run hC 1 rfl ?_
    refine g_ild hC (40 * k + x) rfl (hW.2 61 (by decide)) h.g107 rfl (by omega) (by decide) ?_
    refine g_run hC 1 rfl ?_
    refine g_icne (tgt := 32) hC rfl (by decide) (fun h4 => ?_) (fun h4 => ?_)
    · refine g_run hC 2 rfl ?_
      refine g_lvs (ih (x + 1) ⟨by omega, fun i hi => ?_⟩ (by omega)) ⟨rfl, rfl, rfl, sI (nI_s (40 * k + x)), trivial⟩
      by_cases hix : i = x
      · subst hix; exact fun z => h4 (by rw [z])
      · exact hpre i (by omega)
    · have h5 : st (40 * k + x) = s0 := (nI_eq (by omega) (by omega)).mp h4
      refine g_run hC 1 rfl ?_
      exact g_iret hC rfl rfl ⟨Or.inl ⟨x, by omega, h5, rfl⟩, rfl⟩ (Nat.le_refl _) (Nat.le_refl _)
/-- line k of the reference holds the polynomial row -/
def LN (n : Nat) (si st : Nat → Nat) (nu : Nat → Int64) (k : Nat) (row : Nat → Int64) : Prop :=
  si k ≤ 40 ∧ cnt row = si k ∧ (∀ i, i < si k → st (40 * k + i) < 2 ^ n ∧ nu (40 * k + i) = row (st (40 * k + i)) ∧ ¬ row (st (40 * k + i)) = 0) ∧ (∀ s, s < 512 → ¬ row s = 0 → ∃ i, i < si k ∧ st (40 * k + i) = s) ∧ (∀ i j, i < si k → j < si k → st (40 * k + i) = st (40 * k + j) → i = j)
theorem LN.lt {n k : Nat} {row : Nat → Int64} (hn : n ≤ 9) (hL : LN n si st nu k row) : ∀ i, i < si k → st (40 * k + i) < 512 := fun i hi => Nat.lt_of_lt_of_le (hL.2.2.1 i hi).1 (p2_lt hn)
theorem c_X3_has (hW : KF ad L) (h : MR hp th wi an li ki fi se tr cl si st nu wo fr) (hn : wi ≤ 9) (k s0 : Nat) (row : Nat → Int64) (hk : k < 10) (hL : LN wi si st nu k row) (hs : s0 < 512) : KM l yX3_has cX3_has 4 (some .long) (rmK 1 0 0) D dA ad sa L [.ref 54, .int (nI k), .int (nI s0)] hp (fun r hp' => r = some (.long (row s0)) ∧ hp' = hp) := by
  refine KM.of rfl ok_X3_has (len_of rfl) hW.1.1 hW.1.2 ?_
  intro p e s m args below meth c A hC hN
  have h0 := hW.2 54 (by decide)
  refine g_run hC 3 rfl ?_
  refine g_callV hC hN [.int (nI k), .int (nI s0)] (c_X3_find hW h k s0 hk hL.1 (hL.lt hn) hs) rfl M_X3_83 h0 h.g100 rfl rfl (len_of rfl) (by decide) (by decide) ?_
  rintro r hp1 ⟨⟨i, hi, h1, rfl⟩ | ⟨h1, rfl⟩, rfl⟩
  · obtain ⟨q1, q2, q3⟩ := hL.2.2.1 i hi
    have hl40 := hL.1
    refine g_run hC 2 rfl ?_
    refine g_ifge (tgt := 15) hC rfl (by decide) (fun _ => ?_) (fun h2 => absurd (nI_pos' (by omega)) h2)
    refine g_run hC 1 rfl ?_
    refine g_get hC rfl F_X3_32 h0 h.g100 rfl ?_
    refine g_run hC 1 rfl ?_
    refine g_lld hC (40 * k + i) rfl (hW.2 62 (by decide)) h.g108 rfl (by omega) (by decide) ?_
    rw [q2, h1]
    exact g_lret hC rfl rfl ⟨rfl, rfl⟩ (Nat.le_refl _) (Nat.le_refl _)
  · refine g_run hC 2 rfl ?_
    refine g_ifge (tgt := 15) hC rfl (by decide) (fun h2 => absurd h2 (by decide)) (fun _ => ?_)
    refine g_run hC 2 rfl ?_
    refine g_lret hC rfl rfl ⟨?_, rfl⟩ (Nat.le_refl _) (Nat.le_refl _)
    by_cases hr : row s0 = 0
    · rw [hr]; rfl
    · obtain ⟨i, hi, h3⟩ := hL.2.2.2.1 s0 hs hr
      exact absurd h3 (h1 i hi)
theorem c_X3_values (hW : KF ad L) (h : MR hp th wi an li ki fi se tr cl si st nu wo fr) (hn : wi ≤ 9) (k : Nat) (hk : k < 10) (hsz : si k ≤ 40) (hst : ∀ i, i < si k → st (40 * k + i) < 512) : KM l yX3_values cX3_values 4 none (rmK 0 0 0) D dA ad sa L [.ref 54, .int (nI k)] hp
    (fun r hp' => r = none ∧ (∃ fr', MR hp' th wi an li ki fi se tr cl si st nu wo fr' ∧ ∀ p, p < 2 ^ wi → fr' p = spN st nu (40 * k) p (si k)) ∧ FM hp hp') := by
  refine KM.of rfl ok_X3_values (len_of rfl) hW.1.1 hW.1.2 ?_
  intro p e s m args below meth c A hC hN
  have h0 := hW.2 54 (by decide)
  have h110 := hW.2 64 (by decide)
  have h2 := p2_lt hn
  have hU : ∀ w9 : Nat → Int64, MR (va_up hp 64 (kJ 512 w9)) th wi an li ki fi se tr cl si st nu wo w9 := fun w9 => h.s_fr
  refine g_run hC 2 rfl ?_
  refine g_loop 0 (2 ^ wi) (fun q => va_up hp 64 (kJ 512 (fun j => if j < q then spN st nu (40 * k) j (si k) else fr j))) (fun q => [(0, .ref 54), (1, .int (nI k)), (2, .int (nI q))]) (Nat.zero_le _) ?_ ⟨rfl, rfl, rfl, trivial⟩ ?_ ?_
  · rw [show (fun j => if j < 0 then spN st nu (40 * k) j (si k) else fr j) = fr from by funext j; simp]
    exact (up_same h.g110).symm
  · intro q _ hq ih
    refine g_run hC 3 rfl ?_
    refine g_get hC rfl F_X3_45 h0 (hU _).g100 rfl ?_
    refine g_run hC 1 rfl ?_
    refine g_top (nI (2 ^ wi)) (shl_1 wi (by omega)) ?_
    refine g_icge (tgt := 96) hC rfl (by decide) (fun h1 => ?_) (fun _ => ?_)
    · exact absurd ((nI_leI (a := 2 ^ wi) (b := q) (by omega) (by omega)).mp h1) (by omega)
    · refine g_run hC 1 rfl ?_
      refine g_get hC rfl F_X3_38 h0 (hU _).g100 rfl ?_
      refine g_run hC 2 rfl ?_
      refine g_lst hC q rfl h110 (hU _).g110 rfl (by omega) (by decide) ?_
      rw [up_up]
      refine g_run hC 4 rfl ?_
      generalize hF : (fun j => if j < q then spN st nu (40 * k) j (si k) else fr j) = F
      refine g_loop 0 (si k) (fun i => va_up hp 64 (kJ 512 (va_up F q (spN st nu (40 * k) q i)))) (fun i => [(0, .ref 54), (1, .int (nI k)), (2, .int (nI q)), (3, .int (nI (40 * k + i)))]) (Nat.zero_le _) rfl ⟨rfl, rfl, rfl, sI (pk_mul 40 k), trivial⟩ ?_ ?_
      · intro i _ hi ih2
        have h3 := hst i hi
        refine g_run hC 5 rfl ?_
        refine g_get hC rfl F_X3_26 h0 (hU _).g100 rfl ?_
        refine g_run hC 1 rfl ?_
        refine g_ild hC k rfl (hW.2 60 (by decide)) (hU _).g106 rfl hk (by decide) ?_
        refine g_run hC 1 rfl ?_
        refine g_top (nI (40 * k + si k)) ?_ ?_
        · show nI 40 * nI k + nI (si k) = _
          rw [pk_mul, nI_add]
        refine g_icge (tgt := 90) hC rfl (by decide) (fun h1 => ?_) (fun _ => ?_)
        · exact absurd ((nI_leI (a := 40 * k + si k) (b := 40 * k + i) (by omega) (by omega)).mp h1) (by omega)
        · refine g_run hC 1 rfl ?_
          refine g_get hC rfl F_X3_38 h0 (hU _).g100 rfl ?_
          refine g_run hC 2 rfl ?_
          refine g_get hC rfl F_X3_29 h0 (hU _).g100 rfl ?_
          refine g_run hC 1 rfl ?_
          refine g_ild hC (40 * k + i) rfl (hW.2 61 (by decide)) (hU _).g107 rfl (by omega) (by decide) ?_
          refine g_run hC 3 rfl ?_
          refine g_get hC rfl F_X3_29 h0 (hU _).g100 rfl ?_
          refine g_run hC 1 rfl ?_
          refine g_ild hC (40 * k + i) rfl (hW.2 61 (by decide)) (hU _).g107 rfl (by omega) (by decide) ?_
          have hE : nI (st (40 * k + i)) &&& nI q = nI (st (40 * k + i)) ↔ st (40 * k + i) &&& q = st (40 * k + i) := by rw [nI_and]; exact nI_eq (Nat.lt_of_le_of_lt Nat.and_le_left (by omega)) (by omega)
          refine g_cut (va_up hp 64 (kJ 512 (va_up F q (spN st nu (40 * k) q i)))) 83 [(0, .ref 54), (1, .int (nI k)), (2, .int (nI q)), (3, .int (nI (40 * k + i)))] [.long (spN st nu (40 * k) q (i + 1)), .int (nI q), .ref 64] ?_ (fun t83 => ?_)
          · refine g_lst hC q rfl h110 (hU _).g110 rfl (by omega) (by decide) ?_
            refine g_run hC 2 rfl ?_
            refine g_hp ?_ (g_lvs ih2 ⟨rfl, rfl, rfl, sI (nI_s (40 * k + i)), trivial⟩)
            rw [up_up]
            congr 2
            funext j
            by_cases hj : j = q
            · subst hj; rw [va_up_self, va_up_self]
            · rw [va_up_ne _ _ hj, va_up_ne _ _ hj, va_up_ne _ _ hj]
          · simp only [spN] at t83
            refine g_icne (tgt := 77) hC rfl (by decide) (fun h1 => ?_) (fun h1 => ?_)
            · rw [if_neg (fun z => h1 (hE.mpr z))] at t83
              refine g_run hC 1 rfl ?_
              refine g_get hC rfl F_X3_38 h0 (hU _).g100 rfl ?_
              refine g_run hC 1 rfl ?_
              refine g_lld hC q rfl h110 (hU _).g110 rfl (by omega) (by decide) ?_
              rw [va_up_self]
              exact g_lvs t83 ⟨rfl, rfl, rfl, rfl, trivial⟩
            · rw [if_pos (hE.mp h1)] at t83
              refine g_run hC 1 rfl ?_
              refine g_get hC rfl F_X3_38 h0 (hU _).g100 rfl ?_
              refine g_run hC 1 rfl ?_
              refine g_lld hC q rfl h110 (hU _).g110 rfl (by omega) (by decide) ?_
              rw [va_up_self]
              refine g_run hC 1 rfl ?_
              refine g_get hC rfl F_X3_32 h0 (hU _).g100 rfl ?_
              refine g_run hC 1 rfl ?_
              refine g_lld hC (40 * k + i) rfl (hW.2 62 (by decide)) (hU _).g108 rfl (by omega) (by decide) ?_
              refine g_run hC 2 rfl ?_
              exact g_lvs t83 ⟨rfl, rfl, rfl, rfl, trivial⟩
      · refine g_run hC 5 rfl ?_
        refine g_get hC rfl F_X3_26 h0 (hU _).g100 rfl ?_
        refine g_run hC 1 rfl ?_
        refine g_ild hC k rfl (hW.2 60 (by decide)) (hU _).g106 rfl hk (by decide) ?_
        refine g_run hC 1 rfl ?_
        refine g_top (nI (40 * k + si k)) ?_ ?_
        · show nI 40 * nI k + nI (si k) = _
          rw [pk_mul, nI_add]
        refine g_icge (tgt := 90) hC rfl (by decide) (fun _ => ?_) (fun h1 => absurd (Int32.le_refl _) h1)
        refine g_run hC 2 rfl ?_
        refine g_hp ?_ (g_lvs ih ⟨rfl, rfl, sI (nI_s q), trivial⟩)
        congr 2
        funext j
        rw [← hF]
        by_cases hj : j = q
        · subst hj; rw [va_up_self, if_pos (by omega)]
        · rw [va_up_ne _ _ hj]
          by_cases h5 : j < q
          · rw [if_pos h5, if_pos (by omega)]
          · rw [if_neg h5, if_neg (by omega)]
  · refine g_run hC 3 rfl ?_
    refine g_get hC rfl F_X3_45 h0 (hU _).g100 rfl ?_
    refine g_run hC 1 rfl ?_
    refine g_top (nI (2 ^ wi)) (shl_1 wi (by omega)) ?_
    refine g_icge (tgt := 96) hC rfl (by decide) (fun _ => ?_) (fun h1 => absurd (Int32.le_refl _) h1)
    exact g_ret hC rfl rfl ⟨rfl, ⟨_, hU _, fun p hp9 => if_pos hp9⟩, FM.up (by decide) (by decide)⟩ (Nat.le_refl _) (Nat.le_refl _)
end
