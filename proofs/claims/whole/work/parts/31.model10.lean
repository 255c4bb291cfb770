section
variable {l : Launch} {D : va_G} {dA ad sa : Nat → Nat} {L : List Nat} {hp : Nat → KE} {th wi an li inp : Nat} {ki fi se tr : Nat → Int32} {cl : Nat → Int64} {si st : Nat → Nat} {nu wo fr : Nat → Int64} {gt : Nat → GT} {rs : Nat → Nat → Int64}
theorem c_X3_derived (hW : KF ad L) (h : MR hp th wi an li ki fi se tr cl si st nu wo fr) (hn : wi ≤ 9) (hM : MGs wi inp gt ki fi se tr) (hgd : ∀ i, i < wi → inp &&& 2 ^ i = 0 → gGood i (gt i)) (hcl : supp cl wi) (hc0 : cnt cl ≤ 40) (b : Bool) : KM l yX3_derived cX3_derived 3 (some .boolean) (rmK 4 0 0) D dA ad sa L [.ref 54, .int (bI b)] hp
    (fun r hp' => (∃ si2 st2 nu2 wo2 fr2, MR hp' th wi an li ki fi se tr cl si2 st2 nu2 wo2 fr2 ∧ (b = false → si2 = si ∧ st2 = st ∧ nu2 = nu) ∧ (((∀ j, j ≤ ngN inp wi → cnt (rwsK inp wi gt cl j) ≤ 40) ∧ r = some (.int (nI 1)) ∧ (b = true → ∀ j, j ≤ ngN inp wi → LN wi si2 st2 nu2 j (rwsK inp wi gt cl j))) ∨ ((∃ j, 0 < j ∧ j ≤ ngN inp wi ∧ 40 < cnt (rwsK inp wi gt cl j)) ∧ r = some (.int (nI 0))))) ∧ FM hp hp') := by
  refine KM.of rfl ok_X3_derived (len_of rfl) hW.1.1 hW.1.2 ?_
  intro p e s m args below meth c A hC hN
  have h0 := hW.2 54 (by decide)
  have h109 := hW.2 63 (by decide)
  have h110 := hW.2 64 (by decide)
  have hp2 := p2_lt hn
  have hng := ngN_le inp wi
  have hsup := fun k (hk : k ≤ ngN inp wi) => rws_supp (inp := inp) (n := wi) (gt := gt) (cl := cl) hgd hcl hk
  refine g_run hC 2 rfl ?_
  refine g_ind (σ := Nat × (Nat → KE) × (Nat → Int64) × (Nat → Int64)) (fun x => 2 ^ wi - x.1) (fun x => x.1 ≤ 2 ^ wi ∧ MR x.2.1 th wi an li ki fi se tr cl si st nu x.2.2.1 x.2.2.2 ∧ FM hp x.2.1 ∧ ∀ j, j < x.1 → x.2.2.1 j = cl j ∧ x.2.2.2 j = vsN cl j (2 ^ wi)) (fun x => x.2.1) (fun x => [(0, .ref 54), (1, .int (bI b)), (2, .int (nI x.1))]) (0, hp, wo, fr) ⟨Nat.zero_le _, h, FM.rf, fun j hj => absurd hj (Nat.not_lt_zero j)⟩ rfl ⟨rfl, rfl, rfl, trivial⟩ ?_
  rintro ⟨q, hp1, wo1, fr1⟩ ⟨hq, m1, f1, hr⟩ ih
  dsimp only at hq m1 f1 hr ih ⊢
  refine g_run hC 3 rfl ?_
  refine g_get hC rfl F_X3_45 h0 m1.g100 rfl ?_
  refine g_run hC 1 rfl ?_
  refine g_top (nI (2 ^ wi)) (shl_1 wi (by omega)) ?_
  refine g_icge (tgt := 41) hC rfl (by decide) (fun h1 => ?_) (fun h1 => ?_)
  · have h3 := (nI_leI (a := 2 ^ wi) (b := q) (by omega) (by omega)).mp h1
    have h4 : q = 2 ^ wi := by omega
    subst h4
    refine g_run hC 2 rfl ?_
    refine g_ind (σ := Nat × (Nat → KE) × (Nat → Nat) × (Nat → Nat) × (Nat → Int64) × (Nat → Int64) × (Nat → Int64)) (fun x => ngN inp wi + 1 - x.1) (fun x => x.1 ≤ ngN inp wi + 1 ∧ MR x.2.1 th wi an li ki fi se tr cl x.2.2.1 x.2.2.2.1 x.2.2.2.2.1 x.2.2.2.2.2.1 x.2.2.2.2.2.2 ∧ FM hp x.2.1 ∧ (∀ j, j < 2 ^ wi → x.2.2.2.2.2.1 j = rwsK inp wi gt cl (x.1 - 1) j ∧ x.2.2.2.2.2.2 j = vsN (rwsK inp wi gt cl (x.1 - 1)) j (2 ^ wi)) ∧ (∀ j, j < x.1 → cnt (rwsK inp wi gt cl j) ≤ 40) ∧ (b = false → x.2.2.1 = si ∧ x.2.2.2.1 = st ∧ x.2.2.2.2.1 = nu) ∧ (b = true → ∀ j, j < x.1 → LN wi x.2.2.1 x.2.2.2.1 x.2.2.2.2.1 j (rwsK inp wi gt cl j))) (fun x => x.2.1) (fun x => [(0, .ref 54), (1, .int (bI b)), (2, .int (nI x.1))]) (0, hp1, si, st, nu, wo1, fr1) ⟨Nat.zero_le _, m1, f1, hr, fun j hj => absurd hj (Nat.not_lt_zero j), fun _ => ⟨rfl, rfl, rfl⟩, fun _ j hj => absurd hj (Nat.not_lt_zero j)⟩ rfl ⟨rfl, rfl, rfl, trivial⟩ ?_
    rintro ⟨k, hp2, si2, st2, nu2, wo2, fr2⟩ ⟨hk, m2, f2, hw2, hc2, hf2, ht2⟩ ih2
    dsimp only at hk m2 f2 hw2 hc2 hf2 ht2 ih2 ⊢
    refine g_run hC 2 rfl ?_
    refine g_callV hC hN [] (c_X3_gates hW m2 hn hM hgd) rfl M_X3_93 h0 m2.g100 rfl rfl (len_of rfl) (by decide) (by decide) ?_
    rintro r hp3 ⟨rfl, rfl⟩
    refine g_icgt (tgt := 86) hC rfl (by decide) (fun h5 => ?_) (fun h5 => ?_)
    · have h6 := (nI_ltI (a := ngN inp wi) (b := k) (by omega) (by omega)).mp h5
      refine g_run hC 1 rfl ?_
      exact g_zret hC (nar_b true) rfl rfl ⟨⟨_, _, _, _, _, m2, hf2, Or.inl ⟨fun j hj => hc2 j (by omega), rfl, fun hb j hj => ht2 hb j (by omega)⟩⟩, f2⟩ (Nat.le_refl _) (Nat.le_refl _)
    · have h6 : ¬ ngN inp wi < k := fun z => h5 ((nI_ltI (a := ngN inp wi) (b := k) (by omega) (by omega)).mpr z)
      have hsk := hsup k (by omega)
      refine g_cutA (ι := (Nat → KE) × (Nat → Int64) × (Nat → Int64)) (fun x => MR x.1 th wi an li ki fi se tr cl si2 st2 nu2 x.2.1 x.2.2 ∧ FM hp x.1 ∧ (∀ j, j < 2 ^ wi → x.2.1 j = rwsK inp wi gt cl k j ∧ x.2.2 j = vsN (rwsK inp wi gt cl k) j (2 ^ wi)) ∧ cnt (rwsK inp wi gt cl k) ≤ 40) (fun x => x.1) 71 (fun _ => [(0, .ref 54), (1, .int (bI b)), (2, .int (nI k))]) (fun _ => []) ?_ (fun t71 => ?_)
      · rintro ⟨hp4, wo4, fr4⟩ ⟨m4, f4, hw4, hc4⟩
        dsimp only at m4 f4 hw4 ⊢
        have hck : ∀ j, j < k + 1 → cnt (rwsK inp wi gt cl j) ≤ 40 := fun j hj => by
          by_cases ej : j = k
          · rw [ej]; exact hc4
          · exact hc2 j (by omega)
        refine g_run hC 1 rfl ?_
        cases b with
        | false =>
          refine g_ifeq (tgt := 80) hC rfl (by decide) (fun _ => ?_) (fun h7 => absurd rfl h7)
          refine g_run hC 2 rfl ?_
          exact g_lvs (ih2 (k + 1, hp4, si2, st2, nu2, wo4, fr4) ⟨by dsimp only; omega, m4, f4, hw4, hck, hf2, fun z => by cases z⟩ (by dsimp only; omega)) ⟨rfl, rfl, sI (nI_s k), trivial⟩
        | true =>
          have e4 : cntN wo4 (2 ^ wi) = cnt (rwsK inp wi gt cl k) := (cntN_congr (fun j hj => (hw4 j hj).1)).trans (supp_cnt hn hsk).symm
          refine g_ifeq (tgt := 80) hC rfl (by decide) (fun h7 => absurd h7 (by decide)) (fun _ => ?_)
          refine g_run hC 2 rfl ?_
          refine g_callV hC hN [.int (nI k)] (c_X3_keep hW m4 hn k (by omega) (by omega) (fun i hi => cntN_mono (by omega))) rfl M_X3_102 h0 m4.g100 rfl rfl (len_of rfl) (by decide) (by decide) ?_
          rintro r hp5 ⟨rfl, m5, f5⟩
          refine g_run hC 2 rfl ?_
          refine g_lvs (ih2 (k + 1, hp5, va_up si2 k (cntN wo4 (2 ^ wi)), stK st2 wo4 (40 * k) (2 ^ wi), nuK nu2 wo4 (40 * k) (2 ^ wi), wo4, fr4) ⟨by dsimp only; omega, m5, f4.tr f5, hw4, hck, fun z => (by cases z), fun _ j hj => ?_⟩ (by dsimp only; omega)) ⟨rfl, rfl, sI (nI_s k), trivial⟩
          dsimp only at hj ⊢
          by_cases ej : j = k
          · rw [ej]
            exact LN_keep hn hsk (fun s hs => (hw4 s hs).1) hc4
          · exact (OL_keep (si := si2) (st := st2) (nu := nu2) (k := k) (by omega)).ln ej (ht2 rfl j (by omega))
      · refine g_run hC 1 rfl ?_
        refine g_ifle (tgt := 71) hC rfl (by decide) (fun h7 => ?_) (fun h7 => ?_)
        · have hk0 : k = 0 := Nat.le_zero.mp ((nI_leI (a := k) (b := 0) (by omega) (by decide)).mp h7)
          subst hk0
          exact g_lvs (t71 (_, wo2, fr2) ⟨m2, f2, hw2, hc0⟩) ⟨rfl, rfl, rfl, trivial⟩
        · have hk0 : 0 < k := by
            rcases Nat.eq_zero_or_pos k with z | z
            · exact absurd (by rw [z]; decide) h7
            · exact z
          obtain ⟨v, v1, v2, v3⟩ := gw_ok (inp := inp) (w := wi) (k := k) hk0 (by omega)
          have hrk : rwsK inp wi gt cl k = elimC (rwsK inp wi gt cl (k - 1)) (2 ^ v) (gt v).2.2.2.2.1 (gt v).2.2.2.2.2 := by
            obtain ⟨k1, rfl⟩ : ∃ k1, k = k1 + 1 := ⟨k - 1, by omega⟩
            simp only [rwsK]
            rw [v3, Nat.add_sub_cancel, Nat.add_sub_cancel]
          refine g_run hC 3 rfl ?_
          refine g_callV hC hN [.int (nI k)] (c_X3_gateWire hW m2 hn hM hgd k hk0 (by omega)) rfl M_X3_96 h0 m2.g100 rfl rfl (len_of rfl) (by decide) (by decide) ?_
          rintro r hp4 ⟨rfl, rfl⟩
          rw [v3]
          refine g_callV hC hN [.int (nI (v + 1))] (c_X3_eliminated hW m2 hn v v1 ((hM v v1).1 v2) (hgd v v1 v2)) rfl M_X3_99 h0 m2.g100 rfl rfl (len_of rfl) (by decide) (by decide) ?_
          rintro r hp5 ⟨wo5, fr5, e1, ⟨w1, e2, e3⟩, rfl, m5, f5⟩
          have hfr : ∀ x, x < 2 ^ wi → fr2 (red (gt v) v x) = vsN (rwsK inp wi gt cl k) x (2 ^ wi) := fun x hx => by
            rw [(hw2 _ (red_lt (t := gt v) hn v1 hx)).2, hrk, elim_vs hn v1 (hgd v v1 v2) hx]
          have hwo : ∀ x, x < 2 ^ wi → wo5 x = rwsK inp wi gt cl k x := fun x hx => by
            rw [e3]
            exact mob_inv (fun y hy => by rw [e2 y hy, hfr y hy]) hx
          have e4 : cntN wo5 (2 ^ wi) = cnt (rwsK inp wi gt cl k) := (cntN_congr hwo).trans (supp_cnt hn hsk).symm
          have hcl512 := cnt_le (rwsK inp wi gt cl k)
          rw [e4]
          refine g_run hC 1 rfl ?_
          refine g_icle (tgt := 71) hC rfl (by decide) (fun h8 => ?_) (fun h8 => ?_)
          · have h9 := (nI_leI (a := cnt (rwsK inp wi gt cl k)) (b := 40) (by omega) (by decide)).mp h8
            exact g_lvs (t71 (hp5, wo5, fr5) ⟨m5, f2.tr f5, fun j hj => ⟨hwo j hj, (e1 j hj).trans (hfr j hj)⟩, h9⟩) ⟨rfl, rfl, rfl, trivial⟩
          · have h9 : ¬ cnt (rwsK inp wi gt cl k) ≤ 40 := fun z => h8 ((nI_leI (a := cnt (rwsK inp wi gt cl k)) (b := 40) (by omega) (by decide)).mpr z)
            refine g_run hC 1 rfl ?_
            exact g_zret hC (nar_b false) rfl rfl ⟨⟨_, _, _, _, _, m5, hf2, Or.inr ⟨⟨k, hk0, by omega, by omega⟩, rfl⟩⟩, f2.tr f5⟩ (Nat.le_refl _) (Nat.le_refl _)
  · have h3 : q < 2 ^ wi := by
      have : ¬ 2 ^ wi ≤ q := fun z => h1 ((nI_leI (a := 2 ^ wi) (b := q) (by omega) (by omega)).mpr z)
      omega
    refine g_run hC 1 rfl ?_
    refine g_get hC rfl F_X3_38 h0 m1.g100 rfl ?_
    refine g_run hC 3 rfl ?_
    refine g_callV hC hN [.int (nI q)] (c_X3_claimed hW m1 hn q (by omega)) rfl M_X3_76 h0 m1.g100 rfl rfl (len_of rfl) (by decide) (by decide) ?_
    rintro r hp2 ⟨rfl, rfl⟩
    refine g_lst hC q rfl h110 m1.g110 rfl (by omega) (by decide) ?_
    have m2 := m1.s_fr (x9 := va_up fr1 q (vsN cl q (2 ^ wi)))
    refine g_run hC 1 rfl ?_
    refine g_get hC rfl F_X3_35 h0 m2.g100 rfl ?_
    refine g_run hC 2 rfl ?_
    refine g_get hC rfl F_X3_22 h0 m2.g100 rfl ?_
    refine g_run hC 1 rfl ?_
    refine g_lld hC q rfl (hW.2 59 (by decide)) m2.g105 rfl (by omega) (by decide) ?_
    refine g_lst hC q rfl h109 m2.g109 rfl (by omega) (by decide) ?_
    have m3 := m2.s_wo (x9 := va_up wo1 q (cl q))
    refine g_run hC 2 rfl ?_
    refine g_lvs (ih (q + 1, _, va_up wo1 q (cl q), va_up fr1 q (vsN cl q (2 ^ wi))) ⟨by dsimp only; omega, m3, f1.tr ((FM.up (by decide) (by decide)).tr (FM.up (by decide) (by decide))), fun j hj => ?_⟩ (by dsimp only; omega)) ⟨rfl, rfl, sI (nI_s q), trivial⟩
    dsimp only at hj ⊢
    by_cases ej : j = q
    · rw [ej, va_up_self, va_up_self]
      exact ⟨rfl, rfl⟩
    · rw [va_up_ne _ _ ej, va_up_ne _ _ ej]
      exact hr j (by omega)
theorem c_X3_prove (hW : KF ad L) (h : MR hp th wi an li ki fi se tr cl si st nu wo fr) (hn : wi ≤ 9) (hM : MGs wi inp gt ki fi se tr) (hgd : ∀ i, i < wi → inp &&& 2 ^ i = 0 → gGood i (gt i)) (hcl : supp cl wi) (hc0 : cnt cl ≤ 40) : KM l yX3_prove cX3_prove 1 (some .int) (rmK 5 0 0) D dA ad sa L [.ref 54] hp
    (fun r hp' => (∃ t li2 si2 st2 nu2 wo2 fr2, MR hp' t wi an li2 ki fi se tr cl si2 st2 nu2 wo2 fr2 ∧ ((t = 0 ∧ li2 = ngN inp wi + 1 ∧ (∀ j, j ≤ ngN inp wi → cnt (rwsK inp wi gt cl j) ≤ 40) ∧ r = some (.int (nI (cnt (rwsK inp wi gt cl (ngN inp wi))))) ∧ (∀ j, j ≤ ngN inp wi → LN wi si2 st2 nu2 j (rwsK inp wi gt cl j))) ∨ (t = 1 ∧ li2 = li ∧ si2 = si ∧ st2 = st ∧ nu2 = nu ∧ (∃ j, 0 < j ∧ j ≤ ngN inp wi ∧ 40 < cnt (rwsK inp wi gt cl j)) ∧ ∃ v, r = some (.int v)))) ∧ FM hp hp') := by
  refine KM.of rfl ok_X3_prove (len_of rfl) hW.1.1 hW.1.2 ?_
  intro p e s m args below meth c A hC hN
  have h0 := hW.2 54 (by decide)
  have hng := ngN_le inp wi
  refine g_run hC 3 rfl ?_
  refine g_callV hC hN [.int (bI false)] (c_X3_derived hW h hn hM hgd hcl hc0 false) rfl M_X3_106 h0 h.g100 rfl rfl (len_of rfl) (by decide) (by decide) ?_
  rintro r hp1 ⟨⟨si1, st1, nu1, wo1, fr1, m1, hu, hr⟩, f1⟩
  obtain ⟨rfl, rfl, rfl⟩ := hu rfl
  rcases hr with ⟨hall, rfl, -⟩ | ⟨hbad, rfl⟩
  · refine g_ifeq (tgt := 13) hC rfl (by decide) (fun h1 => absurd h1 (by decide)) (fun _ => ?_)
    refine g_run hC 2 rfl ?_
    refine g_putI hC rfl F_X3_41 h0 m1.g100 (len_of rfl) rfl rfl ?_
    have m2 := m1.obj (th2 := 0) (wi2 := wi) (an2 := an) (li2 := li)
    refine g_run hC 1 rfl ?_
    refine g_get hC rfl F_X3_41 h0 m2.g100 rfl ?_
    refine g_ifgt (tgt := 32) hC rfl (by decide) (fun h1 => absurd h1 (by decide)) (fun _ => ?_)
    refine g_run hC 2 rfl ?_
    refine g_callV hC hN [.int (bI true)] (c_X3_derived hW m2 hn hM hgd hcl hc0 true) rfl M_X3_106 h0 m2.g100 rfl rfl (len_of rfl) (by decide) (by decide) ?_
    rintro r hp3 ⟨⟨si3, st3, nu3, wo3, fr3, m3, -, hr3⟩, f3⟩
    rcases hr3 with ⟨-, rfl, hLN⟩ | ⟨⟨j, j1, j2, j3⟩, -⟩
    · refine g_ifne (tgt := 34) hC rfl (by decide) (fun _ => ?_) (fun h1 => absurd h1 (by decide))
      refine g_run hC 2 rfl ?_
      refine g_callV hC hN [] (c_X3_gates hW m3 hn hM hgd) rfl M_X3_93 h0 m3.g100 rfl rfl (len_of rfl) (by decide) (by decide) ?_
      rintro r hp4 ⟨rfl, rfl⟩
      refine g_run hC 2 rfl ?_
      refine g_top (nI (ngN inp wi + 1)) (nI_s _) ?_
      refine g_putI hC rfl F_X3_52 h0 m3.g100 (len_of rfl) rfl rfl ?_
      have m4 := m3.obj (th2 := 0) (wi2 := wi) (an2 := an) (li2 := ngN inp wi + 1)
      have hL := hLN rfl
      refine g_run hC 1 rfl ?_
      refine g_get hC rfl F_X3_26 h0 m4.g100 rfl ?_
      refine g_run hC 1 rfl ?_
      refine g_get hC rfl F_X3_52 h0 m4.g100 rfl ?_
      refine g_run hC 2 rfl ?_
      refine g_ild hC (ngN inp wi) rfl (hW.2 60 (by decide)) m4.g106 (pk_sub (a := ngN inp wi + 1) (b := 1) (by omega)) (by omega) (by decide) ?_
      refine g_iret hC rfl rfl ⟨⟨_, _, _, _, _, _, _, m4, Or.inl ⟨rfl, rfl, hall, ?_, hL⟩⟩, ((f1.tr (FM.up (by decide) (by decide))).tr f3).tr (FM.up (by decide) (by decide))⟩ (Nat.le_refl _) (Nat.le_refl _)
      rw [(hL _ (Nat.le_refl _)).2.1]
    · have := hall j j2
      omega
  · refine g_ifeq (tgt := 13) hC rfl (by decide) (fun _ => ?_) (fun h1 => absurd rfl h1)
    refine g_run hC 1 rfl ?_
    refine g_putI hC rfl F_X3_41 h0 m1.g100 (len_of rfl) rfl rfl ?_
    have m2 := m1.obj (th2 := 1) (wi2 := wi) (an2 := an) (li2 := li)
    refine g_run hC 1 rfl ?_
    refine g_get hC rfl F_X3_41 h0 m2.g100 rfl ?_
    refine g_ifgt (tgt := 32) hC rfl (by decide) (fun _ => ?_) (fun h1 => absurd (by decide) h1)
    refine g_run hC 1 rfl ?_
    exact g_iret hC rfl rfl ⟨⟨_, _, _, _, _, _, _, m2, Or.inr ⟨rfl, rfl, rfl, rfl, rfl, hbad, _, rfl⟩⟩, f1.tr (FM.up (by decide) (by decide))⟩ (Nat.le_refl _) (Nat.le_refl _)
end
