section
variable {l : Launch} {D : va_G} {dA ad sa : Nat → Nat} {L : List Nat} {hp : Nat → KE} {th wi an li inp : Nat} {ki fi se tr : Nat → Int32} {cl : Nat → Int64} {si st : Nat → Nat} {nu wo fr : Nat → Int64} {gt : Nat → GT} {rs : Nat → Nat → Int64}
theorem c_X3_right (hW : KF ad L) (h : MR hp th wi an li ki fi se tr cl si st nu wo fr) (hn : wi ≤ 9) (hM : MGs wi inp gt ki fi se tr) (hgd : ∀ i, i < wi → inp &&& 2 ^ i = 0 → gGood i (gt i)) (hcl : supp cl wi) (hsu : ∀ k, k < li → supp (rs k) wi) (hLN : ∀ k, k < li → LN wi si st nu k (rs k)) (hli : li = ngN inp wi + 1) (k : Nat) (hk : k < li) : KM l yX3_right cX3_right 4 (some .boolean) (rmK 4 0 0) D dA ad sa L [.ref 54, .int (nI k)] hp
    (fun r hp' => r = some (.int (bI (rgA inp wi gt cl rs k))) ∧ (∃ wo2 fr2, MR hp' th wi an li ki fi se tr cl si st nu wo2 fr2) ∧ FM hp hp') := by
  refine KM.of rfl ok_X3_right (len_of rfl) hW.1.1 hW.1.2 ?_
  intro p e s m args below meth c A hC hN
  have h0 := hW.2 54 (by decide)
  have h109 := hW.2 63 (by decide)
  have hp2 := p2_lt hn
  have hng := ngN_le inp wi
  have hLk := hLN k hk
  have hT : ∃ T : Nat → Int64, rgA inp wi gt cl rs k = eqN (rs k) T (2 ^ wi) ∧ (k = 0 → T = cl) ∧ (∀ v, 0 < k → v < wi → gwN inp wi k = v + 1 → T = elimC (rs (k - 1)) (2 ^ v) (gt v).2.2.2.2.1 (gt v).2.2.2.2.2) := by
    by_cases hk0 : k = 0
    · refine ⟨cl, ?_, fun _ => rfl, fun v h1 => by omega⟩
      unfold rgA
      rw [if_pos hk0, ← supp_eqR hn (hsu k hk) hcl, hk0]
    · obtain ⟨v, v1, v2, v3⟩ := gw_ok (inp := inp) (w := wi) (k := k) (by omega) (by omega)
      refine ⟨elimC (rs (k - 1)) (2 ^ v) (gt v).2.2.2.2.1 (gt v).2.2.2.2.2, ?_, fun z => absurd z hk0, fun v9 _ _ h2 => ?_⟩
      · unfold rgA rgK
        rw [if_neg hk0, v3, Nat.add_sub_cancel, ← supp_eqR hn (hsu k hk) (supp_elimC (hsu (k - 1) (by omega)) v1 (hgd v v1 v2))]
      · have : v9 = v := by omega
        rw [this]
  obtain ⟨T, hT1, hT2, hT3⟩ := hT
  rw [hT1]
  have hU : ∀ w9 : Nat → Int64, MR (va_up hp 63 (kJ 512 w9)) th wi an li ki fi se tr cl si st nu w9 fr := fun w9 => h.s_wo
  refine g_run hC 2 rfl ?_
  refine g_cutA (ι := (Nat → KE) × (Nat → Int64) × (Nat → Int64)) (fun x => MR x.1 th wi an li ki fi se tr cl si st nu x.2.1 x.2.2 ∧ FM hp x.1 ∧ ∀ q, q < 2 ^ wi → x.2.1 q = T q) (fun x => x.1) 51 (fun _ => [(0, .ref 54), (1, .int (nI k))]) (fun _ => []) ?_ (fun t51 => ?_)
  · rintro ⟨hp1, wo1, fr1⟩ ⟨m1, f1, hw⟩
    dsimp only at m1 f1 hw ⊢
    refine g_run hC 4 rfl ?_
    refine g_loop 0 (2 ^ wi) (fun _ => hp1) (fun q => [(0, .ref 54), (1, .int (nI k)), (2, .int (bI (eqN (rs k) T q))), (3, .int (nI q))]) (Nat.zero_le _) rfl ⟨rfl, rfl, rfl, rfl, trivial⟩ ?_ ?_
    · intro q _ hq ih
      refine g_run hC 3 rfl ?_
      refine g_get hC rfl F_X3_45 h0 m1.g100 rfl ?_
      refine g_run hC 1 rfl ?_
      refine g_top (nI (2 ^ wi)) (shl_1 wi (by omega)) ?_
      refine g_icge (tgt := 97) hC rfl (by decide) (fun h1 => ?_) (fun _ => ?_)
      · exact absurd ((nI_leI (a := 2 ^ wi) (b := q) (by omega) (by omega)).mp h1) (by omega)
      refine g_cutA (ι := Unit) (fun _ => True) (fun _ => hp1) 90 (fun _ => [(0, .ref 54), (1, .int (nI k)), (3, .int (nI q))]) (fun _ => [.int (bI (eqN (rs k) T (q + 1)))]) ?_ (fun t90 => ?_)
      · intro _ _
        refine g_run hC 3 rfl ?_
        exact g_lvs ih ⟨rfl, rfl, rfl, sI (nI_s q), trivial⟩
      simp only [eqN] at t90
      refine g_run hC 1 rfl ?_
      cases hb : eqN (rs k) T q with
      | false =>
        rw [hb, Bool.false_and] at t90
        refine g_ifeq (tgt := 89) hC rfl (by decide) (fun _ => ?_) (fun h2 => absurd rfl h2)
        refine g_run hC 1 rfl ?_
        exact g_lvs (t90 () trivial) ⟨rfl, rfl, rfl, trivial⟩
      | true =>
        rw [hb, Bool.true_and] at t90
        refine g_ifeq (tgt := 89) hC rfl (by decide) (fun h2 => absurd h2 (by decide)) (fun _ => ?_)
        refine g_run hC 1 rfl ?_
        refine g_get hC rfl F_X3_35 h0 m1.g100 rfl ?_
        refine g_run hC 1 rfl ?_
        refine g_lld hC q rfl h109 m1.g109 rfl (by omega) (by decide) ?_
        refine g_run hC 3 rfl ?_
        refine g_callV hC hN [.int (nI k), .int (nI q)] (c_X3_has hW m1 hn k q (rs k) (by omega) hLk (by omega)) rfl M_X3_113 h0 m1.g100 rfl rfl (len_of rfl) (by decide) (by decide) ?_
        rintro r hp2 ⟨rfl, rfl⟩
        refine g_run hC 1 rfl ?_
        refine g_ifne (tgt := 89) hC rfl (by decide) (fun h3 => ?_) (fun h3 => ?_)
        · have h4 : ¬ wo1 q = rs k q := fun z => h3 ((cmp0 _ _).mpr z)
          rw [decide_eq_false (fun z => h4 ((hw q hq).trans z.symm))] at t90
          refine g_run hC 1 rfl ?_
          exact g_lvs (t90 () trivial) ⟨rfl, rfl, rfl, trivial⟩
        · have h4 := (cmp0 _ _).mp h3
          rw [decide_eq_true (h4.symm.trans (hw q hq))] at t90
          refine g_run hC 2 rfl ?_
          exact g_lvs (t90 () trivial) ⟨rfl, rfl, rfl, trivial⟩
    · refine g_run hC 3 rfl ?_
      refine g_get hC rfl F_X3_45 h0 m1.g100 rfl ?_
      refine g_run hC 1 rfl ?_
      refine g_top (nI (2 ^ wi)) (shl_1 wi (by omega)) ?_
      refine g_icge (tgt := 97) hC rfl (by decide) (fun _ => ?_) (fun h1 => absurd (Int32.le_refl _) h1)
      refine g_run hC 1 rfl ?_
      exact g_zret hC (nar_b _) rfl rfl ⟨rfl, ⟨_, _, m1⟩, f1⟩ (Nat.le_refl _) (Nat.le_refl _)
  · refine g_loop 0 (2 ^ wi) (fun q => va_up hp 63 (kJ 512 (fun j => if j < q then cl j else wo j))) (fun q => [(0, .ref 54), (1, .int (nI k)), (2, .int (nI q))]) (Nat.zero_le _) ?_ ⟨rfl, rfl, rfl, trivial⟩ ?_ ?_
    · rw [show (fun j => if j < 0 then cl j else wo j) = wo from by funext j; simp]
      exact (up_same h.g109).symm
    · intro q _ hq ih
      refine g_run hC 3 rfl ?_
      refine g_get hC rfl F_X3_45 h0 (hU _).g100 rfl ?_
      refine g_run hC 1 rfl ?_
      refine g_top (nI (2 ^ wi)) (shl_1 wi (by omega)) ?_
      refine g_icge (tgt := 30) hC rfl (by decide) (fun h1 => ?_) (fun _ => ?_)
      · exact absurd ((nI_leI (a := 2 ^ wi) (b := q) (by omega) (by omega)).mp h1) (by omega)
      refine g_run hC 1 rfl ?_
      refine g_get hC rfl F_X3_35 h0 (hU _).g100 rfl ?_
      refine g_run hC 2 rfl ?_
      refine g_get hC rfl F_X3_22 h0 (hU _).g100 rfl ?_
      refine g_run hC 1 rfl ?_
      refine g_lld hC q rfl (hW.2 59 (by decide)) (hU _).g105 rfl (by omega) (by decide) ?_
      refine g_lst hC q rfl h109 (hU _).g109 rfl (by omega) (by decide) ?_
      refine g_run hC 2 rfl ?_
      refine g_hp ?_ (g_lvs ih ⟨rfl, rfl, sI (nI_s q), trivial⟩)
      rw [up_up]
      congr 2
      funext j
      by_cases hj : j = q
      · subst hj; rw [va_up_self, if_pos (by omega)]
      · rw [va_up_ne _ _ hj]
        by_cases h5 : j < q
        · rw [if_pos h5, if_pos (by omega)]
        · rw [if_neg h5, if_neg (by omega)]
    · refine g_run hC 3 rfl ?_
      refine g_get hC rfl F_X3_45 h0 (hU _).g100 rfl ?_
      refine g_run hC 1 rfl ?_
      refine g_top (nI (2 ^ wi)) (shl_1 wi (by omega)) ?_
      refine g_icge (tgt := 30) hC rfl (by decide) (fun _ => ?_) (fun h1 => absurd (Int32.le_refl _) h1)
      refine g_run hC 1 rfl ?_
      have m2 := hU (fun j => if j < 2 ^ wi then cl j else wo j)
      have f2 : FM hp (va_up hp 63 (kJ 512 (fun j => if j < 2 ^ wi then cl j else wo j))) := FM.up (by decide) (by decide)
      refine g_ifle (tgt := 51) hC rfl (by decide) (fun h1 => ?_) (fun h1 => ?_)
      · have hk0 : k = 0 := Nat.le_zero.mp ((nI_leI (a := k) (b := 0) (by omega) (by decide)).mp h1)
        refine g_lvs (t51 (_, _, _) ⟨m2, f2, fun q hq => ?_⟩) ⟨rfl, rfl, trivial⟩
        refine Eq.trans (if_pos hq : (if q < 2 ^ wi then cl q else wo q) = cl q) ?_
        rw [hT2 hk0]
      · have hk0 : 0 < k := by
          rcases Nat.eq_zero_or_pos k with z | z
          · exact absurd (by rw [z]; decide) h1
          · exact z
        obtain ⟨v, v1, v2, v3⟩ := gw_ok (inp := inp) (w := wi) (k := k) hk0 (by omega)
        have hTv := hT3 v hk0 v1 v3
        have hL1 := hLN (k - 1) (by omega)
        refine g_run hC 4 rfl ?_
        refine g_top (nI (k - 1)) (pk_sub (a := k) (b := 1) (by omega)) ?_
        refine g_callV hC hN [.int (nI (k - 1))] (c_X3_values hW m2 hn (k - 1) (by omega) hL1.1 (hL1.lt hn)) rfl M_X3_117 h0 m2.g100 rfl rfl (len_of rfl) (by decide) (by decide) ?_
        rintro r hp3 ⟨rfl, ⟨fr3, m3, hfr⟩, f3⟩
        refine g_run hC 3 rfl ?_
        refine g_callV hC hN [.int (nI k)] (c_X3_gateWire hW m3 hn hM hgd k hk0 (by omega)) rfl M_X3_96 h0 m3.g100 rfl rfl (len_of rfl) (by decide) (by decide) ?_
        rintro r hp4 ⟨rfl, rfl⟩
        rw [v3]
        refine g_callV hC hN [.int (nI (v + 1))] (c_X3_eliminated hW m3 hn v v1 ((hM v v1).1 v2) (hgd v v1 v2)) rfl M_X3_99 h0 m3.g100 rfl rfl (len_of rfl) (by decide) (by decide) ?_
        rintro r hp5 ⟨wo5, fr5, e1, ⟨w1, e2, e3⟩, rfl, m5, f5⟩
        refine g_run hC 1 rfl ?_
        refine g_lvs (t51 (hp5, wo5, fr5) ⟨m5, (f2.tr f3).tr f5, fun q hq => ?_⟩) ⟨rfl, rfl, trivial⟩
        dsimp only
        rw [e3, hTv]
        refine mob_inv (fun x hx => ?_) hq
        have hrx := red_lt (t := gt v) hn v1 hx
        rw [e2 x hx, hfr _ hrx, LN_sp hn hL1, vs_cut hrx hp2, elim_vs hn v1 (hgd v v1 v2) hx]
theorem c_X3_check (hW : KF ad L) (h : MR hp th wi an li ki fi se tr cl si st nu wo fr) (hn : wi ≤ 9) (hM : MGs wi inp gt ki fi se tr) (hgd : ∀ i, i < wi → inp &&& 2 ^ i = 0 → gGood i (gt i)) (hcl : supp cl wi) (hsu : ∀ k, k < li → supp (rs k) wi) (hLN : ∀ k, k < li → LN wi si st nu k (rs k)) (hli : ¬ li = 0 → li = ngN inp wi + 1) : KM l yX3_check cX3_check 2 (some .int) (rmK 5 0 0) D dA ad sa L [.ref 54] hp
    (fun r hp' => (∃ t wo2 fr2, MR hp' t wi an li ki fi se tr cl si st nu wo2 fr2 ∧ ((li = 0 ∧ t = 1 ∧ ∃ v, r = some (.int v)) ∨ (¬ li = 0 ∧ t = 0 ∧ r = some (.int (nI (if eqR (rs 0) cl = true then (chkN inp gt rs wi 0).getD li else 0)))))) ∧ FM hp hp') := by
  refine KM.of rfl ok_X3_check (len_of rfl) hW.1.1 hW.1.2 ?_
  intro p e s m args below meth c A hC hN
  have h0 := hW.2 54 (by decide)
  refine g_run hC 2 rfl ?_
  refine g_get hC rfl F_X3_52 h0 h.g100 rfl ?_
  by_cases hl0 : li = 0
  · refine g_ifne (tgt := 12) hC rfl (by decide) (fun h1 => absurd (by rw [hl0]; rfl) h1) (fun _ => ?_)
    refine g_run hC 2 rfl ?_
    refine g_putI hC rfl F_X3_41 h0 h.g100 (len_of rfl) rfl rfl ?_
    have h2 := h.obj (th2 := 1) (wi2 := wi) (an2 := an) (li2 := li)
    refine g_run hC 4 rfl ?_
    refine g_get hC rfl F_X3_52 h0 h2.g100 rfl ?_
    refine g_icge (tgt := 40) hC rfl (by decide) (fun _ => ?_) (fun h1 => absurd (by rw [hl0]; decide) h1)
    refine g_run hC 1 rfl ?_
    exact g_iret hC rfl rfl ⟨⟨_, _, _, h2, Or.inl ⟨hl0, rfl, _, rfl⟩⟩, FM.up (by decide) (by decide)⟩ (Nat.le_refl _) (Nat.le_refl _)
  · have hlg := hli hl0
    have hng := ngN_le inp wi
    refine g_ifne (tgt := 12) hC rfl (by decide) (fun _ => ?_) (fun h1 => absurd ((nI_z (by omega)).mp h1) hl0)
    refine g_run hC 1 rfl ?_
    refine g_putI hC rfl F_X3_41 h0 h.g100 (len_of rfl) rfl rfl ?_
    have h2 := h.obj (th2 := 0) (wi2 := wi) (an2 := an) (li2 := li)
    refine g_run hC 2 rfl ?_
    refine g_ind (σ := Nat × (Nat → KE) × (Nat → Int64) × (Nat → Int64)) (fun x => li - x.1) (fun x => x.1 ≤ li ∧ MR x.2.1 0 wi an li ki fi se tr cl si st nu x.2.2.1 x.2.2.2 ∧ FM hp x.2.1 ∧ ∀ j, j < x.1 → rgA inp wi gt cl rs j = true) (fun x => x.2.1) (fun x => [(0, .ref 54), (1, .int (nI x.1))]) (0, _, wo, fr) ⟨Nat.zero_le _, h2, FM.up (by decide) (by decide), fun j hj => absurd hj (Nat.not_lt_zero j)⟩ rfl ⟨rfl, rfl, trivial⟩ ?_
    rintro ⟨k, hp1, wo1, fr1⟩ ⟨hk, m1, f1, hr⟩ ih
    dsimp only at hk m1 f1 hr ih ⊢
    refine g_run hC 2 rfl ?_
    refine g_get hC rfl F_X3_52 h0 m1.g100 rfl ?_
    refine g_icge (tgt := 40) hC rfl (by decide) (fun h1 => ?_) (fun h1 => ?_)
    · have h3 := (nI_leI (a := li) (b := k) (by omega) (by omega)).mp h1
      refine g_run hC 1 rfl ?_
      refine g_iret hC rfl rfl ⟨⟨_, _, _, m1, Or.inr ⟨hl0, rfl, ?_⟩⟩, f1⟩ (Nat.le_refl _) (Nat.le_refl _)
      rw [chk_first hlg hk hr (fun z => by omega)]
    · have h3 : ¬ li ≤ k := fun z => h1 ((nI_leI (a := li) (b := k) (by omega) (by omega)).mpr z)
      refine g_run hC 2 rfl ?_
      refine g_callV hC hN [.int (nI k)] (c_X3_right hW m1 hn hM hgd hcl hsu hLN hlg k (by omega)) rfl M_X3_120 h0 m1.g100 rfl rfl (len_of rfl) (by decide) (by decide) ?_
      rintro r hp2 ⟨rfl, ⟨wo2, fr2, m2⟩, f2⟩
      cases hb : rgA inp wi gt cl rs k with
      | false =>
        refine g_ifeq (tgt := 40) hC rfl (by decide) (fun _ => ?_) (fun h4 => absurd rfl h4)
        refine g_run hC 1 rfl ?_
        refine g_iret hC rfl rfl ⟨⟨_, _, _, m2, Or.inr ⟨hl0, rfl, ?_⟩⟩, f1.tr f2⟩ (Nat.le_refl _) (Nat.le_refl _)
        rw [chk_first hlg hk hr (fun _ => hb)]
      | true =>
        refine g_ifeq (tgt := 40) hC rfl (by decide) (fun h4 => absurd h4 (by decide)) (fun _ => ?_)
        refine g_run hC 2 rfl ?_
        refine g_lvs (ih (k + 1, hp2, wo2, fr2) ⟨by dsimp only; omega, m2, f1.tr f2, fun j hj => ?_⟩ (by dsimp only; omega)) ⟨rfl, sI (nI_s k), trivial⟩
        dsimp only at hj
        by_cases ej : j = k
        · rw [ej]; exact hb
        · exact hr j (by omega)
end
