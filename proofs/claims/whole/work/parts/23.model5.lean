def stK (st : Nat → Nat) (wo : Nat → Int64) (b : Nat) : Nat → Nat → Nat
  | 0 => st
  | i + 1 => if wo i = 0 then stK st wo b i else va_up (stK st wo b i) (b + cntN wo i) i
def nuK (nu : Nat → Int64) (wo : Nat → Int64) (b : Nat) : Nat → Nat → Int64
  | 0 => nu
  | i + 1 => if wo i = 0 then nuK nu wo b i else va_up (nuK nu wo b i) (b + cntN wo i) (wo i)
def lackN (li : Nat) (x : Int32) : Nat := if li = 0 then 1 else if lineB li x = true then 0 else 2
def mN (s : Nat) : Nat → Nat
  | 0 => 0
  | k + 1 => mN s k + s / 2 ^ k % 2
theorem mN_pop (s : Nat) : mN s 9 = popN s := by simp [mN, popN]
theorem mN_le (s : Nat) : ∀ k, mN s k ≤ k
  | 0 => Nat.le_refl _
  | k + 1 => by
    have := mN_le s k
    simp only [mN]
    omega
def wtN (row : Nat → Int64) : Nat → Option Nat
  | 0 => none
  | i + 1 => if row i = 0 then wtN row i else match wtN row i with
    | none => some i
    | some b => if popN i < popN b then some i else some b
def bV (o : Option Nat) : Int32 := match o with
  | none => cI (-1)
  | some b => nI b
theorem wtN_lt {row : Nat → Int64} : ∀ {i b : Nat}, wtN row i = some b → b < i
  | 0, b, h => by cases h
  | i + 1, b, h => by
    simp only [wtN] at h
    split at h
    · exact Nat.lt_succ_of_lt (wtN_lt h)
    · split at h
      · cases h; exact Nat.lt_succ_self _
      · rename_i b9 hb9
        split at h
        · cases h; exact Nat.lt_succ_self _
        · cases h; exact Nat.lt_succ_of_lt (wtN_lt hb9)
theorem lineM {li : Nat} {x : Int32} (h0 : ¬ li = 0) (hl : li ≤ 10) : (decide (nI 0 ≤ x) && decide (x ≤ nI (li - 1))) = lineB li x := by
  unfold lineB
  have e : x ≤ nI (li - 1) ↔ x < nI li := by
    rw [Int32.le_iff_toInt_le, Int32.lt_iff_toInt_lt, nI_toInt (by omega), nI_toInt (by omega)]
    omega
  rw [nI_0, decide_eq_decide.mpr e]
theorem monB {c : Nat} {y : Int32} (hc : c ≤ 40) : (decide (nI 0 ≤ y) && decide (y ≤ nI c - nI 1)) = true ↔ ∃ i, i < c ∧ y = nI i := by
  simp only [Bool.and_eq_true, decide_eq_true_eq]
  by_cases h0 : c = 0
  · subst h0
    constructor
    · rintro ⟨h1, h2⟩
      exact absurd (Int32.le_trans h1 h2) (by decide)
    · rintro ⟨i, hi, -⟩; omega
  · rw [pk_sub (a := c) (b := 1) (by omega)]
    constructor
    · rintro ⟨h1, h2⟩
      rcases pk_ix y (n := c) (by omega) with h4 | h4 | ⟨j, hj, e⟩
      · exact absurd h1 (Int32.not_le.mpr h4)
      · have h5 : nI c ≤ nI (c - 1) := Int32.le_trans h4 h2
        exact absurd ((nI_leI (by omega) (by omega)).mp h5) (by omega)
      · exact ⟨j, hj, e⟩
    · rintro ⟨i, hi, rfl⟩
      exact ⟨nI_le (Nat.zero_le _) (by omega), nI_le (by omega) (by omega)⟩
section
variable {l : Launch} {D : va_G} {dA ad sa : Nat → Nat} {L : List Nat} {hp : Nat → KE} {th wi an li inp : Nat} {ki fi se tr : Nat → Int32} {cl : Nat → Int64} {si st : Nat → Nat} {nu wo fr : Nat → Int64} {gt : Nat → GT}
theorem kind_sgn (hM : MGs wi inp gt ki fi se tr) (hgd : ∀ i, i < wi → inp &&& 2 ^ i = 0 → gGood i (gt i)) {i : Nat} (hi : i < wi) : (inp &&& 2 ^ i = 0 → ¬ ki (i + 1) < 0) ∧ (¬ inp &&& 2 ^ i = 0 → ki (i + 1) < 0) := by
  constructor
  · intro hg
    rw [((hM i hi).1 hg).1]
    have := (hgd i hi hg).1
    exact nI_pos (by omega)
  · intro hg
    rw [(hM i hi).2 hg]
    exact neg1_lt
theorem c_X3_gateWire (hW : KF ad L) (h : MR hp th wi an li ki fi se tr cl si st nu wo fr) (hn : wi ≤ 9) (hM : MGs wi inp gt ki fi se tr) (hgd : ∀ i, i < wi → inp &&& 2 ^ i = 0 → gGood i (gt i)) (k : Nat) (hk : 0 < k) (hk2 : k < 2 ^ 31) : KM l yX3_gateWire cX3_gateWire 4 (some .int) (rmK 0 0 0) D dA ad sa L [.ref 54, .int (nI k)] hp (fun r hp' => r = some (.int (nI (gwN inp wi k))) ∧ hp' = hp) := by
  refine KM.of rfl ok_X3_gateWire (len_of rfl) hW.1.1 hW.1.2 ?_
  intro p e s m args below meth c A hC hN
  have h0 := hW.2 54 (by decide)
  generalize hR : gwN inp wi k = RR
  refine g_run hC 3 rfl ?_
  refine g_get hC rfl F_X3_45 h0 h.g100 rfl ?_
  refine g_run hC 1 rfl ?_
  refine g_ind (σ := Nat × Nat) (fun x => x.1) (fun x => x.1 ≤ wi ∧ 0 < x.2 ∧ x.2 < 2 ^ 31 ∧ gwN inp x.1 x.2 = RR) (fun _ => hp) (fun x => [(0, .ref 54), (2, .int (nI x.2)), (3, .int (nI x.1))]) (wi, k) ⟨Nat.le_refl _, hk, hk2, hR⟩ rfl ⟨rfl, rfl, rfl, trivial⟩ ?_
  rintro ⟨w, lf⟩ ⟨hw, hl, hl2, hr⟩ ih
  dsimp only at hw hl hl2 hr ih ⊢
  refine g_run hC 2 rfl ?_
  refine g_iclt (tgt := 41) hC rfl (by decide) (fun h1 => ?_) (fun h1 => ?_)
  · have hw0 : w = 0 := by
      have := (nI_ltI (a := w) (b := 1) (by omega) (by decide)).mp h1
      omega
    subst hw0
    simp only [gwN] at hr
    refine g_run hC 1 rfl ?_
    refine g_iret hC rfl rfl ⟨?_, rfl⟩ (Nat.le_refl _) (Nat.le_refl _)
    rw [← hr]; rfl
  · have hw0 : ¬ w < 1 := fun z => h1 ((nI_ltI (a := w) (b := 1) (by omega) (by decide)).mpr z)
    obtain ⟨v, rfl⟩ : ∃ v, w = v + 1 := ⟨w - 1, by omega⟩
    simp only [gwN] at hr
    obtain ⟨s1, s2⟩ := kind_sgn hM hgd (show v < wi by omega)
    refine g_run hC 1 rfl ?_
    refine g_get hC rfl F_X3_7 h0 h.g100 rfl ?_
    refine g_run hC 1 rfl ?_
    refine g_ild hC (v + 1) rfl (hW.2 55 (by decide)) h.g101 rfl (by omega) (by decide) ?_
    refine g_cut hp 28 [(0, .ref 54), (3, .int (nI (v + 1)))] [.int (nI (if inp &&& 2 ^ v = 0 then lf - 1 else lf))] ?_ (fun t28 => ?_)
    · generalize hq : (if inp &&& 2 ^ v = 0 then lf - 1 else lf) = l2 at hr
      have hl3 : l2 < 2 ^ 31 := by rw [← hq]; split <;> omega
      refine g_run hC 2 rfl ?_
      refine g_ifne (tgt := 35) hC rfl (by decide) (fun h2 => ?_) (fun h2 => ?_)
      · have h3 : ¬ l2 = 0 := fun z => h2 (by rw [z]; rfl)
        rw [if_neg h3] at hr
        refine g_run hC 2 rfl ?_
        exact g_lvs (ih (v, l2) ⟨by dsimp only; omega, by dsimp only; omega, hl3, hr⟩ (by dsimp only; omega)) ⟨rfl, rfl, sI (m1_pred (Nat.succ_pos v)), trivial⟩
      · have h3 : l2 = 0 := (nI_z hl3).mp h2
        rw [if_pos h3] at hr
        refine g_run hC 1 rfl ?_
        refine g_iret hC rfl rfl ⟨?_, rfl⟩ (Nat.le_refl _) (Nat.le_refl _)
        rw [← hr]
    · by_cases hg : inp &&& 2 ^ v = 0
      · rw [if_pos hg] at t28
        refine g_iflt (tgt := 27) hC rfl (by decide) (fun h2 => absurd h2 (s1 hg)) (fun _ => ?_)
        refine g_run hC 4 rfl ?_
        exact g_top (nI (lf - 1)) (pk_sub (a := lf) (b := 1) (by omega)) (g_lvs t28 ⟨rfl, rfl, trivial⟩)
      · rw [if_neg hg] at t28
        refine g_iflt (tgt := 27) hC rfl (by decide) (fun _ => ?_) (fun h2 => absurd (s2 hg) h2)
        refine g_run hC 1 rfl ?_
        exact g_lvs t28 ⟨rfl, rfl, trivial⟩
theorem c_X3_gates (hW : KF ad L) (h : MR hp th wi an li ki fi se tr cl si st nu wo fr) (hn : wi ≤ 9) (hM : MGs wi inp gt ki fi se tr) (hgd : ∀ i, i < wi → inp &&& 2 ^ i = 0 → gGood i (gt i)) : KM l yX3_gates cX3_gates 3 (some .int) (rmK 0 0 0) D dA ad sa L [.ref 54] hp (fun r hp' => r = some (.int (nI (ngN inp wi))) ∧ hp' = hp) := by
  refine KM.of rfl ok_X3_gates (len_of rfl) hW.1.1 hW.1.2 ?_
  intro p e s m args below meth c A hC hN
  have h0 := hW.2 54 (by decide)
  refine g_run hC 4 rfl ?_
  refine g_loop 0 wi (fun _ => hp) (fun i => [(0, .ref 54), (1, .int (nI (ngN inp i))), (2, .int (nI (i + 1)))]) (Nat.zero_le _) rfl ⟨rfl, rfl, rfl, trivial⟩ ?_ ?_
  · intro i _ hi ih
    obtain ⟨s1, s2⟩ := kind_sgn hM hgd hi
    refine g_run hC 2 rfl ?_
    refine g_get hC rfl F_X3_45 h0 h.g100 rfl ?_
    refine g_icgt (tgt := 35) hC rfl (by decide) (fun h1 => ?_) (fun _ => ?_)
    · exact absurd ((nI_ltI (a := wi) (b := i + 1) (by omega) (by omega)).mp h1) (by omega)
    · refine g_run hC 1 rfl ?_
      refine g_get hC rfl F_X3_7 h0 h.g100 rfl ?_
      refine g_run hC 1 rfl ?_
      refine g_ild hC (i + 1) rfl (hW.2 55 (by decide)) h.g101 rfl (by omega) (by decide) ?_
      refine g_cut hp 28 [(0, .ref 54), (2, .int (nI (i + 1)))] [.int (nI (ngN inp (i + 1)))] ?_ (fun t28 => ?_)
      · refine g_run hC 3 rfl ?_
        exact g_lvs ih ⟨rfl, rfl, sI (nI_s (i + 1)), trivial⟩
      · simp only [ngN] at t28
        by_cases hg : inp &&& 2 ^ i = 0
        · rw [if_pos hg] at t28
          refine g_iflt (tgt := 27) hC rfl (by decide) (fun h2 => absurd h2 (s1 hg)) (fun _ => ?_)
          refine g_run hC 4 rfl ?_
          exact g_top (nI (ngN inp i + 1)) (nI_s _) (g_lvs t28 ⟨rfl, rfl, trivial⟩)
        · rw [if_neg hg] at t28
          refine g_iflt (tgt := 27) hC rfl (by decide) (fun _ => ?_) (fun h2 => absurd (s2 hg) h2)
          refine g_run hC 1 rfl ?_
          exact g_lvs t28 ⟨rfl, rfl, trivial⟩
  · refine g_run hC 2 rfl ?_
    refine g_get hC rfl F_X3_45 h0 h.g100 rfl ?_
    refine g_icgt (tgt := 35) hC rfl (by decide) (fun _ => ?_) (fun h1 => absurd (nI_lt (Nat.lt_succ_self wi) (by omega)) h1)
    refine g_run hC 1 rfl ?_
    exact g_iret hC rfl rfl ⟨rfl, rfl⟩ (Nat.le_refl _) (Nat.le_refl _)
theorem c_X3_keep (hW : KF ad L) (h : MR hp th wi an li ki fi se tr cl si st nu wo fr) (hn : wi ≤ 9) (k : Nat) (hk : k < 10) (hc : cntN wo (2 ^ wi) ≤ 40) (hmono : ∀ i, i < 2 ^ wi → cntN wo (i + 1) ≤ cntN wo (2 ^ wi)) : KM l yX3_keep cX3_keep 3 none (rmK 0 0 0) D dA ad sa L [.ref 54, .int (nI k)] hp
    (fun r hp' => r = none ∧ MR hp' th wi an li ki fi se tr cl (va_up si k (cntN wo (2 ^ wi))) (stK st wo (40 * k) (2 ^ wi)) (nuK nu wo (40 * k) (2 ^ wi)) wo fr ∧ FM hp hp') := by
  refine KM.of rfl ok_X3_keep (len_of rfl) hW.1.1 hW.1.2 ?_
  intro p e s m args below meth c A hC hN
  have h0 := hW.2 54 (by decide)
  have h2 := p2_lt hn
  refine g_run hC 1 rfl ?_
  refine g_get hC rfl F_X3_26 h0 h.g100 rfl ?_
  refine g_run hC 2 rfl ?_
  refine g_ist hC k rfl (hW.2 60 (by decide)) h.g106 rfl hk (by decide) ?_
  rw [show va_up (fun j => nI (si j)) k (cI 0) = fun j => nI (va_up si k 0 j) from upI]
  refine g_run hC 2 rfl ?_
  have hm := h.s_si (x9 := va_up si k 0)
  refine g_ind (σ := Nat × (Nat → KE)) (fun x => 2 ^ wi - x.1) (fun x => x.1 ≤ 2 ^ wi ∧ MR x.2 th wi an li ki fi se tr cl (va_up si k (cntN wo x.1)) (stK st wo (40 * k) x.1) (nuK nu wo (40 * k) x.1) wo fr ∧ FM hp x.2) (fun x => x.2) (fun x => [(0, .ref 54), (1, .int (nI k)), (2, .int (nI x.1))]) (0, _) ⟨Nat.zero_le _, hm, FM.up (by decide) (by decide)⟩ rfl ⟨rfl, rfl, rfl, trivial⟩ ?_
  rintro ⟨i, hp1⟩ ⟨hi, hx, hf⟩ ih
  dsimp only at hi hx hf ih ⊢
  refine g_run hC 3 rfl ?_
  refine g_get hC rfl F_X3_45 h0 hx.g100 rfl ?_
  refine g_run hC 1 rfl ?_
  refine g_top (nI (2 ^ wi)) (shl_1 wi (by omega)) ?_
  refine g_icge (tgt := 89) hC rfl (by decide) (fun h1 => ?_) (fun h1 => ?_)
  · have h3 := (nI_leI (a := 2 ^ wi) (b := i) (by omega) (by omega)).mp h1
    have h4 : i = 2 ^ wi := by omega
    subst h4
    exact g_ret hC rfl rfl ⟨rfl, hx, hf⟩ (Nat.le_refl _) (Nat.le_refl _)
  · have h3 : i < 2 ^ wi := by
      have : ¬ 2 ^ wi ≤ i := fun z => h1 ((nI_leI (a := 2 ^ wi) (b := i) (by omega) (by omega)).mpr z)
      omega
    refine g_run hC 1 rfl ?_
    refine g_get hC rfl F_X3_35 h0 hx.g100 rfl ?_
    refine g_run hC 1 rfl ?_
    refine g_lld hC i rfl (hW.2 63 (by decide)) hx.g109 rfl (by omega) (by decide) ?_
    refine g_run hC 2 rfl ?_
    refine g_ifeq (tgt := 83) hC rfl (by decide) (fun h4 => ?_) (fun h4 => ?_)
    · have h5 : wo i = 0 := (cmpz _).mp h4
      refine g_run hC 2 rfl ?_
      refine g_lvs (ih (i + 1, hp1) ⟨by dsimp only; omega, ?_, hf⟩ (by dsimp only; omega)) ⟨rfl, rfl, sI (nI_s i), trivial⟩
      simp only [cntN, stK, nuK]
      rw [if_pos h5, if_pos h5, if_pos h5]
      exact hx
    · have h5 : ¬ wo i = 0 := fun z => h4 ((cmpz _).mpr z)
      have h6 := hmono i h3
      simp only [cntN] at h6
      rw [if_neg h5] at h6
      have hsz : va_up si k (cntN wo i) k = cntN wo i := va_up_self _ _ _
      have e40 : nI 40 * nI k + nI (cntN wo i) = nI (40 * k + cntN wo i) := by rw [pk_mul, nI_add]
      refine g_run hC 1 rfl ?_
      refine g_get hC rfl F_X3_29 h0 hx.g100 rfl ?_
      refine g_run hC 4 rfl ?_
      refine g_get hC rfl F_X3_26 h0 hx.g100 rfl ?_
      refine g_run hC 1 rfl ?_
      refine g_ild hC k rfl (hW.2 60 (by decide)) hx.g106 rfl hk (by decide) ?_
      rw [hsz]
      refine g_run hC 2 rfl ?_
      refine g_ist hC (40 * k + cntN wo i) rfl (hW.2 61 (by decide)) hx.g107 e40 (by omega) (by decide) ?_
      rw [upI]
      have hx1 := hx.s_st (x9 := va_up (stK st wo (40 * k) i) (40 * k + cntN wo i) i)
      refine g_run hC 1 rfl ?_
      refine g_get hC rfl F_X3_32 h0 hx1.g100 rfl ?_
      refine g_run hC 4 rfl ?_
      refine g_get hC rfl F_X3_26 h0 hx1.g100 rfl ?_
      refine g_run hC 1 rfl ?_
      refine g_ild hC k rfl (hW.2 60 (by decide)) hx1.g106 rfl hk (by decide) ?_
      rw [hsz]
      refine g_run hC 2 rfl ?_
      refine g_get hC rfl F_X3_35 h0 hx1.g100 rfl ?_
      refine g_run hC 1 rfl ?_
      refine g_lld hC i rfl (hW.2 63 (by decide)) hx1.g109 rfl (by omega) (by decide) ?_
      refine g_lst hC (40 * k + cntN wo i) rfl (hW.2 62 (by decide)) hx1.g108 e40 (by omega) (by decide) ?_
      have hx2 := hx1.s_nu (x9 := va_up (nuK nu wo (40 * k) i) (40 * k + cntN wo i) (wo i))
      refine g_run hC 1 rfl ?_
      refine g_get hC rfl F_X3_26 h0 hx2.g100 rfl ?_
      refine g_run hC 2 rfl ?_
      refine g_get hC rfl F_X3_26 h0 hx2.g100 rfl ?_
      refine g_run hC 1 rfl ?_
      refine g_ild hC k rfl (hW.2 60 (by decide)) hx2.g106 rfl hk (by decide) ?_
      rw [hsz]
      refine g_run hC 2 rfl ?_
      refine g_top (nI (cntN wo i + 1)) (nI_s _) ?_
      refine g_ist hC k rfl (hW.2 60 (by decide)) hx2.g106 rfl hk (by decide) ?_
      rw [upI]
      rw [show va_up (va_up si k (cntN wo i)) k (cntN wo i + 1) = va_up si k (cntN wo i + 1) from by
        funext j
        by_cases hj : j = k
        · subst hj; rw [va_up_self, va_up_self]
        · rw [va_up_ne _ _ hj, va_up_ne _ _ hj, va_up_ne _ _ hj]]
      have hx3 := hx2.s_si (x9 := va_up si k (cntN wo i + 1))
      refine g_run hC 2 rfl ?_
      refine g_lvs (ih (i + 1, _) ⟨by dsimp only; omega, ?_, hf.tr (((FM.up (by decide) (by decide)).tr (FM.up (by decide) (by decide))).tr (FM.up (by decide) (by decide)))⟩ (by dsimp only; omega)) ⟨rfl, rfl, sI (nI_s i), trivial⟩
      simp only [cntN, stK, nuK]
      rw [if_neg h5, if_neg h5, if_neg h5]
      exact hx3
theorem red_lt {t : GT} {i p n : Nat} (hn : n ≤ 9) (hi : i < n) (hp : p < 2 ^ n) : red t i p < 2 ^ n := by
  unfold red
  split
  · exact Nat.or_lt_two_pow hp (p2_smono hi)
  · exact Nat.lt_of_le_of_lt Nat.and_le_left hp
theorem c_X3_eliminated (hW : KF ad L) (h : MR hp th wi an li ki fi se tr cl si st nu wo fr) (hn : wi ≤ 9) (i : Nat) (hi : i < wi) (hG : mG ki fi se tr (i + 1) (gt i)) (hgg : gGood i (gt i)) : KM l yX3_eliminated cX3_eliminated 3 (some .int) (rmK 3 0 0) D dA ad sa L [.ref 54, .int (nI (i + 1))] hp
    (fun r hp' => ∃ wo' fr', (∀ p, p < 2 ^ wi → fr' p = fr (red (gt i) i p)) ∧ (∃ w1, (∀ p, p < 2 ^ wi → w1 p = fr (red (gt i) i p)) ∧ wo' = mobN w1 (2 ^ wi) wi) ∧ r = some (.int (nI (cntN wo' (2 ^ wi)))) ∧ MR hp' th wi an li ki fi se tr cl si st nu wo' fr' ∧ FM hp hp') := by
  refine KM.of rfl ok_X3_eliminated (len_of rfl) hW.1.1 hW.1.2 ?_
  intro p e s m args below meth c A hC hN
  obtain ⟨g1, g2, g3, g4, -, -⟩ := hgg
  have h0 := hW.2 54 (by decide)
  have h109 := hW.2 63 (by decide)
  have h110 := hW.2 64 (by decide)
  have h2 := p2_lt hn
  have hU : ∀ w9 : Nat → Int64, MR (va_up hp 63 (kJ 512 w9)) th wi an li ki fi se tr cl si st nu w9 fr := fun w9 => h.s_wo
  refine g_run hC 2 rfl ?_
  refine g_loop 0 (2 ^ wi) (fun q => va_up hp 63 (kJ 512 (fun j => if j < q then fr (red (gt i) i j) else wo j))) (fun q => [(0, .ref 54), (1, .int (nI (i + 1))), (2, .int (nI q))]) (Nat.zero_le _) ?_ ⟨rfl, rfl, rfl, trivial⟩ ?_ ?_
  · rw [show (fun j => if j < 0 then fr (red (gt i) i j) else wo j) = wo from by funext j; simp]
    exact (up_same h.g109).symm
  · intro q _ hq ih
    have hrl := red_lt (t := gt i) hn hi hq
    refine g_run hC 3 rfl ?_
    refine g_get hC rfl F_X3_45 h0 (hU _).g100 rfl ?_
    refine g_run hC 1 rfl ?_
    refine g_top (nI (2 ^ wi)) (shl_1 wi (by omega)) ?_
    refine g_icge (tgt := 35) hC rfl (by decide) (fun h1 => ?_) (fun _ => ?_)
    · exact absurd ((nI_leI (a := 2 ^ wi) (b := q) (by omega) (by omega)).mp h1) (by omega)
    · refine g_run hC 1 rfl ?_
      refine g_get hC rfl F_X3_35 h0 (hU _).g100 rfl ?_
      refine g_run hC 2 rfl ?_
      refine g_get hC rfl F_X3_38 h0 (hU _).g100 rfl ?_
      refine g_run hC 3 rfl ?_
      refine g_callV hC hN [.int (nI (i + 1)), .int (nI q)] (c_X3_redirected hW (hU _) i q (gt i) (by omega) hG g1 (by omega) (by omega) (by omega) (by omega)) rfl M_X3_86 h0 (hU _).g100 rfl rfl (len_of rfl) (by decide) (by decide) ?_
      rintro r hp1 ⟨rfl, rfl⟩
      refine g_lld hC (red (gt i) i q) rfl h110 (hU _).g110 rfl (by omega) (by decide) ?_
      refine g_lst hC q rfl h109 (hU _).g109 rfl (by omega) (by decide) ?_
      refine g_run hC 2 rfl ?_
      refine g_hp ?_ (g_lvs ih ⟨rfl, rfl, sI (nI_s q), trivial⟩)
      rw [up_up]
      congr 2
      funext j
      by_cases hj : j = q
      · subst hj; rw [va_up_self, if_pos (by omega)]
      · rw [va_up_ne _ _ hj]
        by_cases h5 : j < q
        · rw [if_pos h5, if_pos (by omega)]
        · rw [if_neg h5, if_neg (by omega)]
  · refine g_run hC 3 rfl ?_
    refine g_get hC rfl F_X3_45 h0 (hU _).g100 rfl ?_
    refine g_run hC 1 rfl ?_
    refine g_top (nI (2 ^ wi)) (shl_1 wi (by omega)) ?_
    refine g_icge (tgt := 35) hC rfl (by decide) (fun _ => ?_) (fun h1 => absurd (Int32.le_refl _) h1)
    have hm := hU (fun j => if j < 2 ^ wi then fr (red (gt i) i j) else wo j)
    have hfm : FM hp (va_up hp 63 (kJ 512 (fun j => if j < 2 ^ wi then fr (red (gt i) i j) else wo j))) := FM.up (by decide) (by decide)
    generalize va_up hp 63 (kJ 512 (fun j => if j < 2 ^ wi then fr (red (gt i) i j) else wo j)) = hp2 at hm hfm ⊢
    have hV : ∀ f9 : Nat → Int64, MR (va_up hp2 64 (kJ 512 f9)) th wi an li ki fi se tr cl si st nu (fun j => if j < 2 ^ wi then fr (red (gt i) i j) else wo j) f9 := fun f9 => hm.s_fr
    refine g_run hC 2 rfl ?_
    refine g_loop 0 (2 ^ wi) (fun q => va_up hp2 64 (kJ 512 (fun j => if j < q then fr (red (gt i) i j) else fr j))) (fun q => [(0, .ref 54), (1, .int (nI (i + 1))), (2, .int (nI q))]) (Nat.zero_le _) ?_ ⟨rfl, rfl, rfl, trivial⟩ ?_ ?_
    · rw [show (fun j => if j < 0 then fr (red (gt i) i j) else fr j) = fr from by funext j; simp]
      exact (up_same hm.g110).symm
    · intro q _ hq ih
      refine g_run hC 3 rfl ?_
      refine g_get hC rfl F_X3_45 h0 (hV _).g100 rfl ?_
      refine g_run hC 1 rfl ?_
      refine g_top (nI (2 ^ wi)) (shl_1 wi (by omega)) ?_
      refine g_icge (tgt := 65) hC rfl (by decide) (fun h1 => ?_) (fun _ => ?_)
      · exact absurd ((nI_leI (a := 2 ^ wi) (b := q) (by omega) (by omega)).mp h1) (by omega)
      · refine g_run hC 1 rfl ?_
        refine g_get hC rfl F_X3_38 h0 (hV _).g100 rfl ?_
        refine g_run hC 2 rfl ?_
        refine g_get hC rfl F_X3_35 h0 (hV _).g100 rfl ?_
        refine g_run hC 1 rfl ?_
        refine g_lld hC q rfl h109 (hV _).g109 rfl (by omega) (by decide) ?_
        rw [if_pos hq]
        refine g_lst hC q rfl h110 (hV _).g110 rfl (by omega) (by decide) ?_
        refine g_run hC 2 rfl ?_
        refine g_hp ?_ (g_lvs ih ⟨rfl, rfl, sI (nI_s q), trivial⟩)
        rw [up_up]
        congr 2
        funext j
        by_cases hj : j = q
        · subst hj; rw [va_up_self, if_pos (by omega)]
        · rw [va_up_ne _ _ hj]
          by_cases h5 : j < q
          · rw [if_pos h5, if_pos (by omega)]
          · rw [if_neg h5, if_neg (by omega)]
    · refine g_run hC 3 rfl ?_
      refine g_get hC rfl F_X3_45 h0 (hV _).g100 rfl ?_
      refine g_run hC 1 rfl ?_
      refine g_top (nI (2 ^ wi)) (shl_1 wi (by omega)) ?_
      refine g_icge (tgt := 65) hC rfl (by decide) (fun _ => ?_) (fun h1 => absurd (Int32.le_refl _) h1)
      refine g_run hC 1 rfl ?_
      refine g_callV hC hN [] (c_X3_coefficients hW (hV _) hn) rfl M_X3_89 h0 (hV _).g100 rfl rfl (len_of rfl) (by decide) (by decide) ?_
      rintro r hp3 ⟨rfl, h3, h4⟩
      exact g_iret hC rfl rfl ⟨_, _, fun p hp9 => if_pos hp9, ⟨_, fun p hp9 => if_pos hp9, rfl⟩, rfl, h3, (hfm.tr (FM.up (by decide) (by decide))).tr h4⟩ (Nat.le_refl _) (Nat.le_refl _)
end
