/-- what lineAt throws -/
def lineX (lc : Nat) (x : Int32) (E : String) : Prop := (lc = 0 ∧ E = ISE) ∨ (¬ lc = 0 ∧ lineB lc x = false ∧ E = IOB)
section
variable {l : Launch} {D : va_G} {dA ad sa : Nat → Nat} {L : List Nat} {hp : Nat → KE} {n inp an lc : Nat} {cl ex : Nat → Int64} {pr : Nat → Nat → Int64} {gt : Nat → GT}
theorem c_X2_size (hW : KF ad L) (hfl : l.stackTraces = false) (h : XR hp n inp an lc cl ex pr gt) (hlc : lc ≤ 10) (x : Int32) : KX l yX2_size cX2_size 2 (some .int) (rmK 8 2 12) D dA ad sa L [.ref 0, .int x] hp
    (fun r hp' => ∃ k, k < lc ∧ x = nI k ∧ r = some (.int (nI (cnt (pr k)))) ∧ hp' = hp) (fun E hp' => lineX lc x E ∧ hp' = hp) := by
  refine KX.of rfl ok_X2_size (len_of rfl) hW.1.1 hW.1.2 ?_
  intro p e s m args below meth c A hC hN hE
  have h0 := hW.2 0 (by decide)
  refine g_run hC 2 rfl ?_
  refine g_callVX hC hN hE (by decide) (fun E hp' q => q) [.int x] (c_X2_lineAt hW hfl h hlc x) rfl M_X2_116 h0 h.1 rfl rfl (len_of rfl) (by decide) (by decide) ?_
  rintro r hp1 ⟨k, hk, rfl, rfl, rfl⟩
  have hpk := h.2.2.2.2.2.1 k (by omega)
  refine g_callV hC hN [] (c_X1_monomialCount hW _ (34 + 2 * k) _ (by omega) hpk) rfl M_X2_105 (hW.2 _ (by omega)) hpk.1 rfl rfl (len_of rfl) (by decide) (by decide) ?_
  rintro r hp2 ⟨rfl, rfl⟩
  exact gx_iret hC rfl rfl ⟨k, hk, rfl, rfl, rfl⟩ (by decide) (by decide)
theorem c_X2_monomial (hW : KF ad L) (hfl : l.stackTraces = false) (h : XR hp n inp an lc cl ex pr gt) (hlc : lc ≤ 10) (x y : Int32) : KX l yX2_monomial cX2_monomial 4 (some .int) (rmK 8 3 18) D dA ad sa L [.ref 0, .int x, .int y] hp
    (fun r hp' => ∃ k i, k < lc ∧ x = nI k ∧ i < cnt (pr k) ∧ y = nI i ∧ r = some (.int (nI (monAt (pr k) 511 i))) ∧ hp' = hp)
    (fun E hp' => (lineX lc x E ∨ (∃ k, k < lc ∧ x = nI k ∧ (¬ ∃ i, i < cnt (pr k) ∧ y = nI i) ∧ E = IOB)) ∧ hp' = hp) := by
  refine KX.of rfl ok_X2_monomial (len_of rfl) hW.1.1 hW.1.2 ?_
  intro p e s m args below meth c A hC hN hE
  have h0 := hW.2 0 (by decide)
  refine g_run hC 2 rfl ?_
  refine g_callVX hC hN hE (by decide) (fun E hp' q => ⟨Or.inl q.1, q.2⟩) [.int x] (c_X2_lineAt hW hfl h hlc x) rfl M_X2_116 h0 h.1 rfl rfl (len_of rfl) (by decide) (by decide) ?_
  rintro r hp1 ⟨k, hk, rfl, rfl, rfl⟩
  have hpk := h.2.2.2.2.2.1 k (by omega)
  have hcl := cnt_le (pr k)
  refine g_run hC 2 rfl ?_
  refine g_iflt (tgt := 18) hC rfl (by decide) (fun h1 => ?_) (fun h1 => ?_)
  · refine g_throw hC hN hE hfl T_120_122_124 rfl rfl rfl rfl rfl (by decide) (by decide) (by decide) ⟨Or.inr ⟨k, hk, rfl, ?_, rfl⟩, rfl⟩
    rintro ⟨i, hi, rfl⟩
    exact nI_pos (by omega) h1
  · refine g_run hC 2 rfl ?_
    refine g_callV hC hN [] (c_X1_monomialCount hW _ (34 + 2 * k) _ (by omega) hpk) rfl M_X2_105 (hW.2 _ (by omega)) hpk.1 rfl rfl (len_of rfl) (by decide) (by decide) ?_
    rintro r hp2 ⟨rfl, rfl⟩
    refine g_iclt (tgt := 28) hC rfl (by decide) (fun h2 => ?_) (fun h2 => ?_)
    · rcases pk_ix y (n := cnt (pr k)) (by omega) with h4 | h4 | ⟨i, hi, rfl⟩
      · exact absurd h4 h1
      · exact absurd h2 (Int32.not_lt.mpr h4)
      · refine g_run hC 2 rfl ?_
        refine g_callV hC hN [.int (nI i)] (c_X1_monomialAt hW _ (34 + 2 * k) i _ (by omega) hpk (by omega)) rfl M_X2_125 (hW.2 _ (by omega)) hpk.1 rfl rfl (len_of rfl) (by decide) (by decide) ?_
        rintro r hp2 ⟨rfl, rfl⟩
        exact gx_iret hC rfl rfl ⟨k, i, hk, rfl, hi, rfl, rfl, rfl⟩ (by decide) (by decide)
    · refine g_throw hC hN hE hfl T_120_122_124 rfl rfl rfl rfl rfl (by decide) (by decide) (by decide) ⟨Or.inr ⟨k, hk, rfl, ?_, rfl⟩, rfl⟩
      rintro ⟨i, hi, rfl⟩
      exact h2 (nI_lt hi (by omega))
theorem c_X2_coefficient (hW : KF ad L) (hfl : l.stackTraces = false) (h : XR hp n inp an lc cl ex pr gt) (hlc : lc ≤ 10) (hn : n ≤ 9) (x y : Int32) : KX l yX2_coefficient cX2_coefficient 4 (some .long) (rmK 8 3 18) D dA ad sa L [.ref 0, .int x, .int y] hp
    (fun r hp' => ∃ k i, k < lc ∧ x = nI k ∧ i < 2 ^ n ∧ y = nI i ∧ r = some (.long (pr k i)) ∧ hp' = hp)
    (fun E hp' => (lineX lc x E ∨ ((∃ k, k < lc ∧ x = nI k) ∧ setB n y = false ∧ E = IOB)) ∧ hp' = hp) := by
  refine KX.of rfl ok_X2_coefficient (len_of rfl) hW.1.1 hW.1.2 ?_
  intro p e s m args below meth c A hC hN hE
  have h0 := hW.2 0 (by decide)
  have h2 := p2_lt hn
  refine g_run hC 2 rfl ?_
  refine g_callVX hC hN hE (by decide) (fun E hp' q => ⟨Or.inl q.1, q.2⟩) [.int x] (c_X2_lineAt hW hfl h hlc x) rfl M_X2_116 h0 h.1 rfl rfl (len_of rfl) (by decide) (by decide) ?_
  rintro r hp1 ⟨k, hk, rfl, rfl, rfl⟩
  have hpk := h.2.2.2.2.2.1 k (by omega)
  refine g_run hC 3 rfl ?_
  refine g_callVX hC hN hE (by decide) (fun E hp' q => ⟨Or.inr ⟨⟨k, hk, rfl⟩, q.1, q.2.1⟩, q.2.2⟩) [.int y] (c_X2_refuseSet hW hfl h hn y) rfl M_X2_128 h0 h.1 rfl rfl (len_of rfl) (by decide) (by decide) ?_
  rintro r hp2 ⟨hb, rfl, rfl⟩
  obtain ⟨i, hi, rfl⟩ := (setB_iff hn).mp hb
  refine g_run hC 2 rfl ?_
  refine g_callV hC hN [.int (nI i)] (c_X1_numberOf hW _ (34 + 2 * k) i _ (by omega) hpk (by omega)) rfl M_X2_131 (hW.2 _ (by omega)) hpk.1 rfl rfl (len_of rfl) (by decide) (by decide) ?_
  rintro r hp2 ⟨rfl, rfl⟩
  exact gx_lret hC rfl rfl ⟨k, i, hk, rfl, hi, rfl, rfl, rfl⟩ (by decide) (by decide)
theorem c_X2_spoil (hW : KF ad L) (hfl : l.stackTraces = false) (h : XR hp n inp an lc cl ex pr gt) (hlc : lc ≤ 10) (hn : n ≤ 9) (x y z : Int32) : KX l yX2_spoil cX2_spoil 6 (some .long) (rmK 8 4 24) D dA ad sa L [.ref 0, .int x, .int y, .int z] hp
    (fun r hp' => ∃ k i, k < lc ∧ x = nI k ∧ i < 2 ^ n ∧ y = nI i ∧ ¬ (¬ z = 0 ∧ pr k i = 0 ∧ 40 ≤ cnt (pr k)) ∧ r = some (.long (pr k i + z.toInt64)) ∧ XR hp' n inp an lc cl ex (va_up pr k (inc (pr k) i z.toInt64)) gt ∧ FX hp hp')
    (fun E hp' => (lineX lc x E ∨ ((∃ k, k < lc ∧ x = nI k) ∧ setB n y = false ∧ E = IOB) ∨ (∃ k i, k < lc ∧ x = nI k ∧ i < 2 ^ n ∧ y = nI i ∧ (¬ z = 0 ∧ pr k i = 0 ∧ 40 ≤ cnt (pr k)) ∧ E = AEX)) ∧ hp' = hp) := by
  refine KX.of rfl ok_X2_spoil (len_of rfl) hW.1.1 hW.1.2 ?_
  intro p e s m args below meth c A hC hN hE
  have h0 := hW.2 0 (by decide)
  have h2 := p2_lt hn
  refine g_run hC 2 rfl ?_
  refine g_callVX hC hN hE (by decide) (fun E hp' q => ⟨Or.inl q.1, q.2⟩) [.int x] (c_X2_lineAt hW hfl h hlc x) rfl M_X2_116 h0 h.1 rfl rfl (len_of rfl) (by decide) (by decide) ?_
  rintro r hp1 ⟨k, hk, rfl, rfl, rfl⟩
  have hpk := h.2.2.2.2.2.1 k (by omega)
  have hcl := cnt_le (pr k)
  refine g_run hC 3 rfl ?_
  refine g_callVX hC hN hE (by decide) (fun E hp' q => ⟨Or.inr (Or.inl ⟨⟨k, hk, rfl⟩, q.1, q.2.1⟩), q.2.2⟩) [.int y] (c_X2_refuseSet hW hfl h hn y) rfl M_X2_128 h0 h.1 rfl rfl (len_of rfl) (by decide) (by decide) ?_
  rintro r hp2 ⟨hb, rfl, rfl⟩
  obtain ⟨i, hi, rfl⟩ := (setB_iff hn).mp hb
  refine g_run hC 1 rfl ?_
  refine g_cutA (ι := Unit) (fun _ => ¬ (¬ z = 0 ∧ pr k i = 0 ∧ 40 ≤ cnt (pr k))) (fun _ => hp2) 59 (fun _ => [(0, .ref 0), (2, .int (nI i)), (3, .int z), (4, .ref (34 + 2 * k))]) (fun _ => []) ?_ (fun t59 => ?_)
  · intro _ hno
    refine g_run hC 4 rfl ?_
    refine g_callV hC hN [.int (nI i), .long z.toInt64] (c_X1_increase hW _ (34 + 2 * k) i _ _ (by omega) hpk (by omega)) rfl M_X2_76 (hW.2 _ (by omega)) hpk.1 rfl rfl (len_of rfl) (by decide) (by decide) ?_
    rintro r hp3 ⟨rfl, rfl⟩
    exact gx_lret hC rfl rfl ⟨k, i, hk, rfl, hi, rfl, hno, rfl, h.setpr (by omega), FX.setP (by omega)⟩ (by decide) (by decide)
  · refine g_cutA (ι := Bool) (fun b => b = decide (¬ z = 0 ∧ pr k i = 0)) (fun _ => hp2) 32 (fun _ => [(0, .ref 0), (2, .int (nI i)), (3, .int z), (4, .ref (34 + 2 * k))]) (fun b => [.int (bI b)]) ?_ (fun t32 => ?_)
    · rintro b rfl
      refine g_run hC 2 rfl ?_
      by_cases hz : ¬ z = 0 ∧ pr k i = 0
      · rw [decide_eq_true hz]
        refine g_ifeq (tgt := 59) hC rfl (by decide) (fun h3 => absurd h3 (by decide)) (fun _ => ?_)
        refine g_run hC 1 rfl ?_
        refine g_callV hC hN [] (c_X1_monomialCount hW _ (34 + 2 * k) _ (by omega) hpk) rfl M_X2_105 (hW.2 _ (by omega)) hpk.1 rfl rfl (len_of rfl) (by decide) (by decide) ?_
        rintro r hp3 ⟨rfl, rfl⟩
        refine g_run hC 1 rfl ?_
        refine g_iclt (tgt := 59) hC rfl (by decide) (fun h3 => ?_) (fun h3 => ?_)
        · have h4 := (nI_ltI (b := 40) (by omega) (by decide)).mp h3
          exact g_lvs (t59 () (fun q => by omega)) ⟨rfl, rfl, rfl, rfl, trivial⟩
        · have h4 : ¬ cnt (pr k) < 40 := fun q => h3 ((nI_ltI (b := 40) (by omega) (by decide)).mpr q)
          exact g_throw hC hN hE hfl T_108_134_112 rfl rfl rfl rfl rfl (by decide) (by decide) (by decide) ⟨Or.inr (Or.inr ⟨k, i, hk, rfl, hi, rfl, ⟨hz.1, hz.2, by omega⟩, rfl⟩), rfl⟩
      · rw [decide_eq_false hz]
        refine g_ifeq (tgt := 59) hC rfl (by decide) (fun _ => ?_) (fun h3 => absurd rfl h3)
        exact g_lvs (t59 () (fun q => hz ⟨q.1, q.2.1⟩)) ⟨rfl, rfl, rfl, rfl, trivial⟩
    · refine g_ifeq (tgt := 31) hC rfl (by decide) (fun h3 => ?_) (fun h3 => ?_)
      · refine g_run hC 1 rfl ?_
        exact g_lvs (t32 false (decide_eq_false (fun q => q.1 h3)).symm) ⟨rfl, rfl, rfl, rfl, trivial⟩
      · refine g_run hC 2 rfl ?_
        refine g_callV hC hN [.int (nI i)] (c_X1_numberOf hW _ (34 + 2 * k) i _ (by omega) hpk (by omega)) rfl M_X2_131 (hW.2 _ (by omega)) hpk.1 rfl rfl (len_of rfl) (by decide) (by decide) ?_
        rintro r hp3 ⟨rfl, rfl⟩
        refine g_run hC 2 rfl ?_
        refine g_ifne (tgt := 31) hC rfl (by decide) (fun h4 => ?_) (fun h4 => ?_)
        · refine g_run hC 1 rfl ?_
          exact g_lvs (t32 false (decide_eq_false (fun q => h4 ((cmpz _).mpr q.2))).symm) ⟨rfl, rfl, rfl, rfl, trivial⟩
        · refine g_run hC 2 rfl ?_
          exact g_lvs (t32 true (decide_eq_true ⟨h3, (cmpz _).mp h4⟩).symm) ⟨rfl, rfl, rfl, rfl, trivial⟩
theorem c_X2_clear (hW : KF ad L) (h : XR hp n inp an lc cl ex pr gt) : KM l yX2_clear cX2_clear 2 (some .int) (rmK 2 0 0) D dA ad sa L [.ref 0] hp (fun r hp' => r = some (.int (nI n)) ∧ XR hp' 0 0 0 0 (fun _ => 0) ex pr gt ∧ FX hp hp') := by
  refine KM.of rfl ok_X2_clear (len_of rfl) hW.1.1 hW.1.2 ?_
  intro p e s m args below meth c A hC hN
  have h0 := hW.2 0 (by decide)
  refine g_run hC 1 rfl ?_
  refine g_get hC rfl F_X2_37 h0 h.1 rfl ?_
  refine g_run hC 3 rfl ?_
  refine g_putI hC rfl F_X2_37 h0 h.1 (len_of rfl) rfl rfl ?_
  have h1 := h.obj (n2 := 0) (inp2 := inp) (an2 := an) (lc2 := lc)
  refine g_run hC 2 rfl ?_
  refine g_putI hC rfl F_X2_33 h0 h1.1 (len_of rfl) rfl rfl ?_
  have h2 := h1.obj (n2 := 0) (inp2 := 0) (an2 := an) (lc2 := lc)
  refine g_run hC 1 rfl ?_
  refine g_get hC rfl F_X2_18 h0 h2.1 rfl ?_
  refine g_callV hC hN [] (c_X1_erase hW _ 2 cl (by decide) h2.2.2.2.1) rfl M_X2_151 (hW.2 2 (by decide)) h2.2.2.2.1.1 rfl rfl (len_of rfl) (by decide) (by decide) ?_
  rintro r hp1 ⟨rfl, rfl⟩
  have h3 := h2.setcl (r := fun _ => 0)
  refine g_run hC 2 rfl ?_
  refine g_putI hC rfl F_X2_68 h0 h3.1 (len_of rfl) rfl rfl ?_
  have h4 := h3.obj (n2 := 0) (inp2 := 0) (an2 := 0) (lc2 := lc)
  refine g_run hC 1 rfl ?_
  refine g_callV hC hN [] (c_X2_dropProof hW h4) rfl M_X2_80 h0 h4.1 rfl rfl (len_of rfl) (by decide) (by decide) ?_
  rintro r hp2 ⟨rfl, h5, h6⟩
  refine g_run hC 1 rfl ?_
  exact g_iret hC rfl rfl ⟨rfl, h5, (((FX.up (by decide)).tr (FX.up (by decide))).tr ((FX.setP (by decide)).tr (FX.up (by decide)))).tr h6⟩ (Nat.le_refl _) (Nat.le_refl _)
theorem c_X2_check (hW : KF ad L) (hfl : l.stackTraces = false) (h : XR hp n inp an lc cl ex pr gt) (hg : XG n inp gt) (hlc : lc ≤ 10) : KX l yX2_check cX2_check 3 (some .int) (rmK 7 1 6) D dA ad sa L [.ref 0] hp
    (fun r hp' => ¬ lc = 0 ∧ r = some (.int (nI (if eqR (pr 0) cl = true then (chkN inp gt pr n 0).getD lc else 0))) ∧ (∃ ex', XR hp' n inp an lc cl ex' pr gt) ∧ FX hp hp')
    (fun E hp' => lc = 0 ∧ E = ISE ∧ hp' = hp) := by
  refine KX.of rfl ok_X2_check (len_of rfl) hW.1.1 hW.1.2 ?_
  intro p e s m args below meth c A hC hN hE
  obtain ⟨hn, hi, hgd⟩ := hg
  have h0 := hW.2 0 (by decide)
  have hi5 : inp < 512 := Nat.lt_of_lt_of_le hi (p2_lt hn)
  refine g_run hC 1 rfl ?_
  refine g_callVX hC hN hE (by decide) (fun E hp' q => q) [] (c_X2_refuseWithout hW hfl h (by omega)) rfl M_X2_136 h0 h.1 rfl rfl (len_of rfl) (by decide) (by decide) ?_
  rintro r hp1 ⟨hl0, rfl, rfl⟩
  refine g_run hC 1 rfl ?_
  refine g_get hC rfl F_X2_22 h0 h.1 rfl ?_
  refine g_run hC 1 rfl ?_
  refine g_ald (C := RX1) (t := 3) hC 0 rfl (hW.2 4 (by decide)) h.2.2.1 rfl rfl (by decide) (by decide) rfl ?_
  refine g_run hC 1 rfl ?_
  refine g_get hC rfl F_X2_18 h0 h.1 rfl ?_
  have hp0 := h.2.2.2.2.2.1 0 (by decide)
  refine g_callV hC hN [.ref 2] (c_X1_isSameAs hW hp1 34 2 _ cl (by decide) hp0 (by decide) h.2.2.2.1) rfl M_X2_139 (hW.2 34 (by decide)) hp0.1 rfl rfl (len_of rfl) (by decide) (by decide) ?_
  rintro r hp2 ⟨rfl, rfl⟩
  cases he : eqR (pr 0) cl with
  | false =>
    refine g_ifne (tgt := 22) hC rfl (by decide) (fun h1 => absurd rfl h1) (fun _ => ?_)
    refine g_run hC 1 rfl ?_
    exact gx_iret hC rfl rfl ⟨hl0, rfl, ⟨ex, h⟩, FX.rf⟩ (by decide) (by decide)
  | true =>
    refine g_ifne (tgt := 22) hC rfl (by decide) (fun _ => ?_) (fun h1 => absurd h1 (by decide))
    rw [if_pos rfl]
    generalize hRES : chkN inp gt pr n 0 = RES
    refine g_run hC 3 rfl ?_
    refine g_get hC rfl F_X2_37 h0 h.1 rfl ?_
    refine g_run hC 1 rfl ?_
    refine g_ind (σ := Nat × Nat × (Nat → Int64) × (Nat → KE)) (fun x => x.1) (fun x => x.2.1 + x.1 ≤ n ∧ XR x.2.2.2 n inp an lc cl x.2.2.1 pr gt ∧ FX hp2 x.2.2.2 ∧ chkN inp gt pr x.1 x.2.1 = RES) (fun x => x.2.2.2) (fun x => [(0, .ref 0), (1, .int (nI x.2.1)), (2, .int (nI x.1))]) (n, 0, ex, hp2) ⟨Nat.le_of_eq (Nat.zero_add n), h, FX.rf, hRES⟩ rfl ⟨rfl, rfl, rfl, trivial⟩ ?_
    rintro ⟨w, line, ex1, hp3⟩ ⟨hwl, hx, hf, hres⟩ ih
    dsimp only at hwl hx hf hres ih ⊢
    refine g_run hC 2 rfl ?_
    refine g_iclt (tgt := 96) hC rfl (by decide) (fun h2 => ?_) (fun h2 => ?_)
    · have hw0 : w = 0 := by
        have := (nI_ltI (a := w) (b := 1) (by omega) (by decide)).mp h2
        omega
      subst hw0
      simp only [chkN] at hres
      refine g_run hC 1 rfl ?_
      refine g_get hC rfl F_X2_113 h0 hx.1 rfl ?_
      refine gx_iret hC rfl rfl ⟨hl0, ?_, ⟨ex1, hx⟩, hf⟩ (by decide) (by decide)
      rw [← hres]; rfl
    · have hw0 : ¬ w < 1 := fun z => h2 ((nI_ltI (a := w) (b := 1) (by omega) (by decide)).mpr z)
      obtain ⟨w1, rfl⟩ : ∃ k, w = k + 1 := ⟨w - 1, by omega⟩
      simp only [chkN] at hres
      refine g_run hC 2 rfl ?_
      refine g_callV hC hN [.int (nI (w1 + 1))] (c_X2_isGate hW hx w1 hi5 (by omega)) rfl M_X2_98 h0 hx.1 rfl rfl (len_of rfl) (by decide) (by decide) ?_
      rintro r hp4 ⟨rfl, rfl⟩
      by_cases hb : inp &&& 2 ^ w1 = 0
      · rw [decide_eq_true hb]
        rw [if_pos hb] at hres
        have hgg := hgd w1 (by omega) hb
        refine g_ifeq (tgt := 90) hC rfl (by decide) (fun h3 => absurd h3 (by decide)) (fun _ => ?_)
        refine g_run hC 2 rfl ?_
        refine g_get hC rfl F_X2_26 h0 hx.1 rfl ?_
        refine g_run hC 1 rfl ?_
        refine g_get hC rfl F_X2_22 h0 hx.1 rfl ?_
        refine g_run hC 3 rfl ?_
        refine g_ald (C := RX1) (t := 3) hC line rfl (hW.2 4 (by decide)) hx.2.2.1 rfl ?_ (by omega) (by decide) rfl ?_
        · show nI line + cI 1 - nI 1 = nI line
          rw [nI_s]; exact pk_sub (a := line + 1) (b := 1) (by omega)
        refine g_run hC 1 rfl ?_
        refine g_callS hC hN [.int (nI (w1 + 1))] (c_X2_bitOf hW hp4 (w1 + 1) (by omega) (by omega)) rfl M_X2_40 rfl (len_of rfl) (by decide) (by decide) ?_
        rintro r hp5 ⟨rfl, rfl⟩
        refine g_run hC 1 rfl ?_
        refine g_get hC rfl F_X2_11 h0 hx.1 rfl ?_
        refine g_run hC 3 rfl ?_
        refine g_ald (C := RX0) (t := 2) hC w1 rfl (hW.2 1 (by decide)) hx.2.1 rfl (pk_sub (a := w1 + 1) (b := 1) (by omega)) (by omega) (by decide) rfl ?_
        have q1 := hx.2.2.2.2.1
        have q2 := hx.2.2.2.2.2.1 line (by omega)
        have q3 := hx.2.2.2.2.2.2 w1 (by omega)
        refine g_callV hC hN [.ref (34 + 2 * line), .int (nI (2 ^ (w1 + 1 - 1))), .ref (7 + 3 * w1)] (c_X1_becomeElimination hW hp5 5 (34 + 2 * line) (7 + 3 * w1) (w1 + 1 - 1) _ _ _ _ _ _ _ _ (by omega) q1 (by omega) q2 (by omega) q3 (by omega) (by omega) (by omega) (by omega) (by omega) (by omega) (by omega) (by omega) (hgg.lt (by omega))) rfl M_X2_101 (hW.2 5 (by decide)) q1.1 rfl rfl (len_of rfl) (by decide) (by decide) ?_
        rintro r hp6 ⟨rfl, rfl⟩
        rw [Nat.add_sub_cancel]
        have h4 := hx.setex (r := elimC (pr line) (2 ^ w1) (gt w1).2.2.2.2.1 (gt w1).2.2.2.2.2)
        refine g_run hC 1 rfl ?_
        refine g_get hC rfl F_X2_22 h0 h4.1 rfl ?_
        refine g_run hC 1 rfl ?_
        refine g_ald (C := RX1) (t := 3) hC (line + 1) rfl (hW.2 4 (by decide)) h4.2.2.1 rfl (nI_s line) (by omega) (by decide) rfl ?_
        refine g_run hC 1 rfl ?_
        refine g_get hC rfl F_X2_26 h0 h4.1 rfl ?_
        have q4 := h4.2.2.2.2.2.1 (line + 1) (by omega)
        refine g_callV hC hN [.ref 5] (c_X1_isSameAs hW _ (34 + 2 * (line + 1)) 5 _ _ (by omega) q4 (by omega) h4.2.2.2.2.1) rfl M_X2_139 (hW.2 _ (by omega)) q4.1 rfl rfl (len_of rfl) (by decide) (by decide) ?_
        rintro r hp7 ⟨rfl, rfl⟩
        cases hq : eqR (pr (line + 1)) (elimC (pr line) (2 ^ w1) (gt w1).2.2.2.2.1 (gt w1).2.2.2.2.2) with
        | true =>
          rw [hq, if_pos rfl] at hres
          refine g_ifne (tgt := 90) hC rfl (by decide) (fun _ => ?_) (fun h1 => absurd h1 (by decide))
          refine g_run hC 2 rfl ?_
          exact g_lvs (ih (w1, line + 1, _, _) ⟨by dsimp only; omega, h4, hf.tr (FX.setP (by decide)), hres⟩ (by dsimp only; omega)) ⟨rfl, sI (nI_s line), sI (m1_pred (Nat.succ_pos w1)), trivial⟩
        | false =>
          rw [hq, if_neg (by decide)] at hres
          refine g_ifne (tgt := 90) hC rfl (by decide) (fun h1 => absurd rfl h1) (fun _ => ?_)
          refine g_run hC 1 rfl ?_
          refine g_top (nI (line + 1)) (nI_s line) ?_
          refine gx_iret hC rfl rfl ⟨hl0, ?_, ⟨_, h4⟩, hf.tr (FX.setP (by decide))⟩ (by decide) (by decide)
          rw [← hres]; rfl
      · rw [decide_eq_false hb]
        rw [if_neg hb] at hres
        refine g_ifeq (tgt := 90) hC rfl (by decide) (fun _ => ?_) (fun h3 => absurd rfl h3)
        refine g_run hC 2 rfl ?_
        exact g_lvs (ih (w1, line, ex1, hp4) ⟨by dsimp only; omega, hx, hf, hres⟩ (by dsimp only; omega)) ⟨rfl, rfl, sI (m1_pred (Nat.succ_pos w1)), trivial⟩
end
