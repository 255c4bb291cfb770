section
variable {l : Launch} {D : va_G} {dA ad sa : Nat → Nat} {L : List Nat} {hp : Nat → KE} {th wi an li inp : Nat} {ki fi se tr : Nat → Int32} {cl : Nat → Int64} {si st : Nat → Nat} {nu wo fr : Nat → Int64} {gt : Nat → GT}
theorem c_X3_simulate (hW : KF ad L) (h : MR hp th wi an li ki fi se tr cl si st nu wo fr) (hn : wi ≤ 9) (hi : inp < 2 ^ wi) (hM : MGs wi inp gt ki fi se tr) (hgd : ∀ i, i < wi → inp &&& 2 ^ i = 0 → gGood i (gt i)) (x : Int32) : KM l yX3_simulate cX3_simulate 2 (some .int) (rmK 3 0 0) D dA ad sa L [.ref 54, .int x] hp
    (fun r hp' => ((∃ o, o < 512 ∧ o &&& inp = o ∧ x = nI o ∧ r = some (.int (nI (simN inp gt o wi))) ∧ MR hp' 0 wi an li ki fi se tr cl si st nu wo fr) ∨ (¬ inpOK inp x ∧ (∃ v, r = some (.int v)) ∧ MR hp' 1 wi an li ki fi se tr cl si st nu wo fr)) ∧ FM hp hp') := by
  refine KM.of rfl ok_X3_simulate (len_of rfl) hW.1.1 hW.1.2 ?_
  intro p e s m args below meth c A hC hN
  have h0 := hW.2 54 (by decide)
  refine g_run hC 3 rfl ?_
  refine g_callV hC hN [.int x] (c_X3_areInputs hW h hn hi hM hgd x) rfl M_X3_69 h0 h.g100 rfl rfl (len_of rfl) (by decide) (by decide) ?_
  rintro r hp1 ⟨⟨b, rfl, hb⟩, rfl⟩
  cases b with
  | true =>
    obtain ⟨o, ho, h1, rfl⟩ := hb.mp rfl
    refine g_ifeq (tgt := 13) hC rfl (by decide) (fun h2 => absurd h2 (by decide)) (fun _ => ?_)
    refine g_run hC 2 rfl ?_
    refine g_putI hC rfl F_X3_41 h0 h.g100 (len_of rfl) rfl rfl ?_
    have h2 := h.obj (th2 := 0) (wi2 := wi) (an2 := an) (li2 := li)
    refine g_run hC 1 rfl ?_
    refine g_get hC rfl F_X3_41 h0 h2.g100 rfl ?_
    refine g_ifle (tgt := 28) hC rfl (by decide) (fun _ => ?_) (fun h3 => absurd (by decide) h3)
    refine g_run hC 2 rfl ?_
    refine g_callV hC hN [.int (nI o)] (c_X3_settled hW h2 hn hM hgd o ho) rfl M_X3_72 h0 h2.g100 rfl rfl (len_of rfl) (by decide) (by decide) ?_
    rintro r hp2 ⟨rfl, rfl⟩
    exact g_iret hC rfl rfl ⟨Or.inl ⟨o, ho, h1, rfl, rfl, h2⟩, FM.up (by decide) (by decide)⟩ (Nat.le_refl _) (Nat.le_refl _)
  | false =>
    refine g_ifeq (tgt := 13) hC rfl (by decide) (fun _ => ?_) (fun h2 => absurd rfl h2)
    refine g_run hC 1 rfl ?_
    refine g_putI hC rfl F_X3_41 h0 h.g100 (len_of rfl) rfl rfl ?_
    have h2 := h.obj (th2 := 1) (wi2 := wi) (an2 := an) (li2 := li)
    refine g_run hC 1 rfl ?_
    refine g_get hC rfl F_X3_41 h0 h2.g100 rfl ?_
    refine g_ifle (tgt := 28) hC rfl (by decide) (fun h3 => absurd h3 (by decide)) (fun _ => ?_)
    refine g_run hC 2 rfl ?_
    exact g_iret hC rfl rfl ⟨Or.inr ⟨fun z => Bool.noConfusion (hb.mpr z), ⟨_, rfl⟩, h2⟩, FM.up (by decide) (by decide)⟩ (Nat.le_refl _) (Nat.le_refl _)
theorem c_X3_evaluate (hW : KF ad L) (h : MR hp th wi an li ki fi se tr cl si st nu wo fr) (hn : wi ≤ 9) (hi : inp < 2 ^ wi) (hM : MGs wi inp gt ki fi se tr) (hgd : ∀ i, i < wi → inp &&& 2 ^ i = 0 → gGood i (gt i)) (x : Int32) : KM l yX3_evaluate cX3_evaluate 2 (some .long) (rmK 3 0 0) D dA ad sa L [.ref 54, .int x] hp
    (fun r hp' => ((∃ o, o < 512 ∧ o &&& inp = o ∧ x = nI o ∧ r = some (.long (vsN cl (simN inp gt o wi) (2 ^ wi))) ∧ MR hp' 0 wi an li ki fi se tr cl si st nu wo fr) ∨ (¬ inpOK inp x ∧ (∃ v, r = some (.long v)) ∧ MR hp' 1 wi an li ki fi se tr cl si st nu wo fr)) ∧ FM hp hp') := by
  refine KM.of rfl ok_X3_evaluate (len_of rfl) hW.1.1 hW.1.2 ?_
  intro p e s m args below meth c A hC hN
  have h0 := hW.2 54 (by decide)
  refine g_run hC 3 rfl ?_
  refine g_callV hC hN [.int x] (c_X3_areInputs hW h hn hi hM hgd x) rfl M_X3_69 h0 h.g100 rfl rfl (len_of rfl) (by decide) (by decide) ?_
  rintro r hp1 ⟨⟨b, rfl, hb⟩, rfl⟩
  cases b with
  | true =>
    obtain ⟨o, ho, h1, rfl⟩ := hb.mp rfl
    refine g_ifeq (tgt := 13) hC rfl (by decide) (fun h2 => absurd h2 (by decide)) (fun _ => ?_)
    refine g_run hC 2 rfl ?_
    refine g_putI hC rfl F_X3_41 h0 h.g100 (len_of rfl) rfl rfl ?_
    have h2 := h.obj (th2 := 0) (wi2 := wi) (an2 := an) (li2 := li)
    refine g_run hC 1 rfl ?_
    refine g_get hC rfl F_X3_41 h0 h2.g100 rfl ?_
    refine g_ifle (tgt := 28) hC rfl (by decide) (fun _ => ?_) (fun h3 => absurd (by decide) h3)
    refine g_run hC 3 rfl ?_
    refine g_callV hC hN [.int (nI o)] (c_X3_settled hW h2 hn hM hgd o ho) rfl M_X3_72 h0 h2.g100 rfl rfl (len_of rfl) (by decide) (by decide) ?_
    rintro r hp2 ⟨rfl, rfl⟩
    refine g_callV hC hN [.int (nI (simN inp gt o wi))] (c_X3_claimed hW h2 hn _ (simN_lt ho wi hn)) rfl M_X3_76 h0 h2.g100 rfl rfl (len_of rfl) (by decide) (by decide) ?_
    rintro r hp3 ⟨rfl, rfl⟩
    exact g_lret hC rfl rfl ⟨Or.inl ⟨o, ho, h1, rfl, rfl, h2⟩, FM.up (by decide) (by decide)⟩ (Nat.le_refl _) (Nat.le_refl _)
  | false =>
    refine g_ifeq (tgt := 13) hC rfl (by decide) (fun _ => ?_) (fun h2 => absurd rfl h2)
    refine g_run hC 1 rfl ?_
    refine g_putI hC rfl F_X3_41 h0 h.g100 (len_of rfl) rfl rfl ?_
    have h2 := h.obj (th2 := 1) (wi2 := wi) (an2 := an) (li2 := li)
    refine g_run hC 1 rfl ?_
    refine g_get hC rfl F_X3_41 h0 h2.g100 rfl ?_
    refine g_ifle (tgt := 28) hC rfl (by decide) (fun h3 => absurd h3 (by decide)) (fun _ => ?_)
    refine g_run hC 2 rfl ?_
    exact g_lret hC rfl rfl ⟨Or.inr ⟨fun z => Bool.noConfusion (hb.mpr z), ⟨_, rfl⟩, h2⟩, FM.up (by decide) (by decide)⟩ (Nat.le_refl _) (Nat.le_refl _)
theorem c_X3_input (hW : KF ad L) (h : MR hp th wi an li ki fi se tr cl si st nu wo fr) (hn : wi ≤ 9) : KM l yX3_input cX3_input 1 (some .int) (rmK 0 0 0) D dA ad sa L [.ref 54] hp
    (fun r hp' => ((wi = 9 ∧ (∃ v, r = some (.int v)) ∧ MR hp' 1 wi an li ki fi se tr cl si st nu wo fr) ∨ (wi < 9 ∧ r = some (.int (nI (wi + 1))) ∧ MR hp' 0 (wi + 1) an 0 (va_up ki (wi + 1) (cI (-1))) fi se tr cl si st nu wo fr)) ∧ FM hp hp') := by
  refine KM.of rfl ok_X3_input (len_of rfl) hW.1.1 hW.1.2 ?_
  intro p e s m args below meth c A hC hN
  have h0 := hW.2 54 (by decide)
  refine g_run hC 2 rfl ?_
  refine g_get hC rfl F_X3_45 h0 h.g100 rfl ?_
  refine g_run hC 1 rfl ?_
  refine g_icne (tgt := 14) hC rfl (by decide) (fun h1 => ?_) (fun h1 => ?_)
  · have h9 : ¬ wi = 9 := fun z => h1 (by rw [z]; rfl)
    refine g_run hC 1 rfl ?_
    refine g_putI hC rfl F_X3_41 h0 h.g100 (len_of rfl) rfl rfl ?_
    have h2 := h.obj (th2 := 0) (wi2 := wi) (an2 := an) (li2 := li)
    refine g_run hC 1 rfl ?_
    refine g_get hC rfl F_X3_41 h0 h2.g100 rfl ?_
    refine g_ifle (tgt := 27) hC rfl (by decide) (fun _ => ?_) (fun h3 => absurd (by decide) h3)
    refine g_run hC 2 rfl ?_
    refine g_get hC rfl F_X3_45 h0 h2.g100 rfl ?_
    refine g_run hC 2 rfl ?_
    refine g_top (nI (wi + 1)) (nI_s wi) ?_
    refine g_putI hC rfl F_X3_45 h0 h2.g100 (len_of rfl) rfl rfl ?_
    have h3 := h2.obj (th2 := 0) (wi2 := wi + 1) (an2 := an) (li2 := li)
    refine g_run hC 1 rfl ?_
    refine g_get hC rfl F_X3_7 h0 h3.g100 rfl ?_
    refine g_run hC 1 rfl ?_
    refine g_get hC rfl F_X3_45 h0 h3.g100 rfl ?_
    refine g_run hC 1 rfl ?_
    refine g_ist hC (wi + 1) rfl (hW.2 55 (by decide)) h3.g101 rfl (by omega) (by decide) ?_
    have h4 := h3.s_ki (x9 := va_up ki (wi + 1) (cI (-1)))
    refine g_run hC 2 rfl ?_
    refine g_putI hC rfl F_X3_52 h0 h4.g100 (len_of rfl) rfl rfl ?_
    have h5 := h4.obj (th2 := 0) (wi2 := wi + 1) (an2 := an) (li2 := 0)
    refine g_run hC 1 rfl ?_
    refine g_get hC rfl F_X3_45 h0 h5.g100 rfl ?_
    exact g_iret hC rfl rfl ⟨Or.inr ⟨by omega, rfl, h5⟩, (((FM.up (by decide) (by decide)).tr (FM.up (by decide) (by decide))).tr (FM.up (by decide) (by decide))).tr (FM.up (by decide) (by decide))⟩ (Nat.le_refl _) (Nat.le_refl _)
  · have h9 : wi = 9 := (nI_eq (b := 9) (by omega) (by decide)).mp h1
    refine g_run hC 2 rfl ?_
    refine g_putI hC rfl F_X3_41 h0 h.g100 (len_of rfl) rfl rfl ?_
    have h2 := h.obj (th2 := 1) (wi2 := wi) (an2 := an) (li2 := li)
    refine g_run hC 1 rfl ?_
    refine g_get hC rfl F_X3_41 h0 h2.g100 rfl ?_
    refine g_ifle (tgt := 27) hC rfl (by decide) (fun h3 => absurd h3 (by decide)) (fun _ => ?_)
    refine g_run hC 1 rfl ?_
    exact g_iret hC rfl rfl ⟨Or.inl ⟨h9, ⟨_, rfl⟩, h2⟩, FM.up (by decide) (by decide)⟩ (Nat.le_refl _) (Nat.le_refl _)
theorem c_X3_gate (hW : KF ad L) (h : MR hp th wi an li ki fi se tr cl si st nu wo fr) (hn : wi ≤ 9) (x a b d : Int32) : KM l yX3_gate cX3_gate 6 (some .int) (rmK 2 0 0) D dA ad sa L [.ref 54, .int x, .int a, .int b, .int d] hp
    (fun r hp' => ((gateB wi x a b d = false ∧ (∃ v, r = some (.int v)) ∧ MR hp' 1 wi an li ki fi se tr cl si st nu wo fr) ∨ (gateB wi x a b d = true ∧ wi = 9 ∧ (∃ v, r = some (.int v)) ∧ MR hp' 2 wi an li ki fi se tr cl si st nu wo fr) ∨ (gateB wi x a b d = true ∧ wi < 9 ∧ r = some (.int (nI (wi + 1))) ∧ MR hp' 0 (wi + 1) an 0 (va_up ki (wi + 1) x) (va_up fi (wi + 1) a) (va_up se (wi + 1) b) (va_up tr (wi + 1) d) cl si st nu wo fr)) ∧ FM hp hp') := by
  refine KM.of rfl ok_X3_gate (len_of rfl) hW.1.1 hW.1.2 ?_
  intro p e s m args below meth c A hC hN
  have h0 := hW.2 54 (by decide)
  refine g_run hC 3 rfl ?_
  refine g_callS hC hN [.int x, .int (nI 0), .int (nI 3)] (c_X3_within hW hp x _ _) rfl M_X3_48 rfl (len_of rfl) (by decide) (by decide) ?_
  rintro r hp1 ⟨rfl, rfl⟩
  refine g_cutA (ι := Bool) (fun b0 => gateB wi x a b d = b0) (fun _ => hp1) 44 (fun _ => [(0, .ref 54), (1, .int x), (2, .int a), (3, .int b), (4, .int d)]) (fun b0 => [.int (bI b0)]) ?_ (fun t44 => ?_)
  · intro b0 hb0
    rw [hb0]
    refine g_run hC 3 rfl ?_
    cases b0 with
    | false =>
      refine g_ifne (tgt := 56) hC rfl (by decide) (fun h1 => absurd rfl h1) (fun _ => ?_)
      refine g_run hC 2 rfl ?_
      refine g_putI hC rfl F_X3_41 h0 h.g100 (len_of rfl) rfl rfl ?_
      have h2 := h.obj (th2 := 1) (wi2 := wi) (an2 := an) (li2 := li)
      refine g_run hC 1 rfl ?_
      refine g_get hC rfl F_X3_41 h0 h2.g100 rfl ?_
      refine g_ifle (tgt := 82) hC rfl (by decide) (fun h3 => absurd h3 (by decide)) (fun _ => ?_)
      refine g_run hC 1 rfl ?_
      exact g_iret hC rfl rfl ⟨Or.inl ⟨rfl, ⟨_, rfl⟩, h2⟩, FM.up (by decide) (by decide)⟩ (Nat.le_refl _) (Nat.le_refl _)
    | true =>
      refine g_ifne (tgt := 56) hC rfl (by decide) (fun _ => ?_) (fun h1 => absurd h1 (by decide))
      refine g_run hC 1 rfl ?_
      refine g_get hC rfl F_X3_45 h0 h.g100 rfl ?_
      refine g_run hC 1 rfl ?_
      refine g_icne (tgt := 69) hC rfl (by decide) (fun h1 => ?_) (fun h1 => ?_)
      · have h9 : ¬ wi = 9 := fun z => h1 (by rw [z]; rfl)
        refine g_run hC 1 rfl ?_
        refine g_putI hC rfl F_X3_41 h0 h.g100 (len_of rfl) rfl rfl ?_
        have h2 := h.obj (th2 := 0) (wi2 := wi) (an2 := an) (li2 := li)
        refine g_run hC 1 rfl ?_
        refine g_get hC rfl F_X3_41 h0 h2.g100 rfl ?_
        refine g_ifle (tgt := 82) hC rfl (by decide) (fun _ => ?_) (fun h3 => absurd (by decide) h3)
        refine g_run hC 2 rfl ?_
        refine g_get hC rfl F_X3_45 h0 h2.g100 rfl ?_
        refine g_run hC 2 rfl ?_
        refine g_top (nI (wi + 1)) (nI_s wi) ?_
        refine g_putI hC rfl F_X3_45 h0 h2.g100 (len_of rfl) rfl rfl ?_
        have h3 := h2.obj (th2 := 0) (wi2 := wi + 1) (an2 := an) (li2 := li)
        refine g_run hC 1 rfl ?_
        refine g_get hC rfl F_X3_7 h0 h3.g100 rfl ?_
        refine g_run hC 1 rfl ?_
        refine g_get hC rfl F_X3_45 h0 h3.g100 rfl ?_
        refine g_run hC 1 rfl ?_
        refine g_ist hC (wi + 1) rfl (hW.2 55 (by decide)) h3.g101 rfl (by omega) (by decide) ?_
        have h4 := h3.s_ki (x9 := va_up ki (wi + 1) x)
        refine g_run hC 1 rfl ?_
        refine g_get hC rfl F_X3_13 h0 h4.g100 rfl ?_
        refine g_run hC 1 rfl ?_
        refine g_get hC rfl F_X3_45 h0 h4.g100 rfl ?_
        refine g_run hC 1 rfl ?_
        refine g_ist hC (wi + 1) rfl (hW.2 56 (by decide)) h4.g102 rfl (by omega) (by decide) ?_
        have h5 := h4.s_fi (x9 := va_up fi (wi + 1) a)
        refine g_run hC 1 rfl ?_
        refine g_get hC rfl F_X3_16 h0 h5.g100 rfl ?_
        refine g_run hC 1 rfl ?_
        refine g_get hC rfl F_X3_45 h0 h5.g100 rfl ?_
        refine g_run hC 1 rfl ?_
        refine g_ist hC (wi + 1) rfl (hW.2 57 (by decide)) h5.g103 rfl (by omega) (by decide) ?_
        have h6 := h5.s_se (x9 := va_up se (wi + 1) b)
        refine g_run hC 1 rfl ?_
        refine g_get hC rfl F_X3_19 h0 h6.g100 rfl ?_
        refine g_run hC 1 rfl ?_
        refine g_get hC rfl F_X3_45 h0 h6.g100 rfl ?_
        refine g_run hC 1 rfl ?_
        refine g_ist hC (wi + 1) rfl (hW.2 58 (by decide)) h6.g104 rfl (by omega) (by decide) ?_
        have h7 := h6.s_tr (x9 := va_up tr (wi + 1) d)
        refine g_run hC 2 rfl ?_
        refine g_putI hC rfl F_X3_52 h0 h7.g100 (len_of rfl) rfl rfl ?_
        have h8 := h7.obj (th2 := 0) (wi2 := wi + 1) (an2 := an) (li2 := 0)
        refine g_run hC 1 rfl ?_
        refine g_get hC rfl F_X3_45 h0 h8.g100 rfl ?_
        refine g_iret hC rfl rfl ⟨Or.inr (Or.inr ⟨rfl, by omega, rfl, h8⟩), ?_⟩ (Nat.le_refl _) (Nat.le_refl _)
        exact ((((((FM.up (by decide) (by decide)).tr (FM.up (by decide) (by decide))).tr (FM.up (by decide) (by decide))).tr (FM.up (by decide) (by decide))).tr (FM.up (by decide) (by decide))).tr (FM.up (by decide) (by decide))).tr (FM.up (by decide) (by decide))
      · have h9 : wi = 9 := (nI_eq (b := 9) (by omega) (by decide)).mp h1
        refine g_run hC 2 rfl ?_
        refine g_putI hC rfl F_X3_41 h0 h.g100 (len_of rfl) rfl rfl ?_
        have h2 := h.obj (th2 := 2) (wi2 := wi) (an2 := an) (li2 := li)
        refine g_run hC 1 rfl ?_
        refine g_get hC rfl F_X3_41 h0 h2.g100 rfl ?_
        refine g_ifle (tgt := 82) hC rfl (by decide) (fun h3 => absurd h3 (by decide)) (fun _ => ?_)
        refine g_run hC 1 rfl ?_
        exact g_iret hC rfl rfl ⟨Or.inr (Or.inl ⟨rfl, h9, ⟨_, rfl⟩, h2⟩), FM.up (by decide) (by decide)⟩ (Nat.le_refl _) (Nat.le_refl _)
  · cases hK : (decide (nI 0 ≤ x) && decide (x ≤ nI 3)) with
    | false =>
      have hK2 : (decide (0 ≤ x) && decide (x ≤ nI 3)) = false := hK
      refine g_ifeq (tgt := 43) hC rfl (by decide) (fun _ => ?_) (fun h1 => absurd rfl h1)
      refine g_run hC 1 rfl ?_
      exact g_lvs (t44 false (by unfold gateB; rw [hK2]; rfl)) ⟨rfl, rfl, rfl, rfl, rfl, trivial⟩
    | true =>
      have hK2 : (decide (0 ≤ x) && decide (x ≤ nI 3)) = true := hK
      refine g_ifeq (tgt := 43) hC rfl (by decide) (fun h1 => absurd h1 (by decide)) (fun _ => ?_)
      refine g_run hC 2 rfl ?_
      refine g_callV hC hN [.int a] (c_X3_isLiteral hW h a) rfl M_X3_55 h0 h.g100 rfl rfl (len_of rfl) (by decide) (by decide) ?_
      rintro r hp2 ⟨rfl, rfl⟩
      cases hla : litB wi a with
      | false =>
        refine g_ifeq (tgt := 43) hC rfl (by decide) (fun _ => ?_) (fun h1 => absurd rfl h1)
        refine g_run hC 1 rfl ?_
        exact g_lvs (t44 false (by unfold gateB; rw [hK2, hla]; rfl)) ⟨rfl, rfl, rfl, rfl, rfl, trivial⟩
      | true =>
        refine g_ifeq (tgt := 43) hC rfl (by decide) (fun h1 => absurd h1 (by decide)) (fun _ => ?_)
        refine g_run hC 2 rfl ?_
        refine g_callV hC hN [.int b] (c_X3_isLiteral hW h b) rfl M_X3_55 h0 h.g100 rfl rfl (len_of rfl) (by decide) (by decide) ?_
        rintro r hp3 ⟨rfl, rfl⟩
        cases hlb : litB wi b with
        | false =>
          refine g_ifeq (tgt := 43) hC rfl (by decide) (fun _ => ?_) (fun h1 => absurd rfl h1)
          refine g_run hC 1 rfl ?_
          exact g_lvs (t44 false (by unfold gateB; rw [hK2, hla, hlb]; rfl)) ⟨rfl, rfl, rfl, rfl, rfl, trivial⟩
        | true =>
          refine g_ifeq (tgt := 43) hC rfl (by decide) (fun h1 => absurd h1 (by decide)) (fun _ => ?_)
          refine g_run hC 2 rfl ?_
          refine g_iclt (tgt := 39) hC rfl (by decide) (fun h1 => ?_) (fun h1 => ?_)
          · have h5 := decide_eq_true (p := x < nI 2) h1
            refine g_run hC 2 rfl ?_
            exact g_lvs (t44 true (by unfold gateB; rw [hK2, hla, hlb, h5]; rfl)) ⟨rfl, rfl, rfl, rfl, rfl, trivial⟩
          · have h5 := decide_eq_false (p := x < nI 2) h1
            refine g_run hC 2 rfl ?_
            refine g_callV hC hN [.int d] (c_X3_isLiteral hW h d) rfl M_X3_55 h0 h.g100 rfl rfl (len_of rfl) (by decide) (by decide) ?_
            rintro r hp4 ⟨rfl, rfl⟩
            cases hld : litB wi d with
            | false =>
              refine g_ifeq (tgt := 43) hC rfl (by decide) (fun _ => ?_) (fun h1 => absurd rfl h1)
              refine g_run hC 1 rfl ?_
              exact g_lvs (t44 false (by unfold gateB; rw [hK2, hla, hlb, h5, hld]; rfl)) ⟨rfl, rfl, rfl, rfl, rfl, trivial⟩
            | true =>
              refine g_ifeq (tgt := 43) hC rfl (by decide) (fun h1 => absurd h1 (by decide)) (fun _ => ?_)
              refine g_run hC 2 rfl ?_
              exact g_lvs (t44 true (by unfold gateB; rw [hK2, hla, hlb, h5, hld]; rfl)) ⟨rfl, rfl, rfl, rfl, rfl, trivial⟩
theorem c_X3_add (hW : KF ad L) (h : MR hp th wi an li ki fi se tr cl si st nu wo fr) (hn : wi ≤ 9) (ha : an ≤ 40) (x y : Int32) : KM l yX3_add cX3_add 3 (some .int) (rmK 2 0 0) D dA ad sa L [.ref 54, .int x, .int y] hp
    (fun r hp' => ((setB wi x = false ∧ (∃ v, r = some (.int v)) ∧ MR hp' 1 wi an li ki fi se tr cl si st nu wo fr) ∨ (setB wi x = true ∧ an = 40 ∧ (∃ v, r = some (.int v)) ∧ MR hp' 2 wi an li ki fi se tr cl si st nu wo fr) ∨ (∃ k, k < 2 ^ wi ∧ x = nI k ∧ an < 40 ∧ r = some (.int (nI (an + 1))) ∧ MR hp' 0 wi (an + 1) 0 ki fi se tr (inc cl k y.toInt64) si st nu wo fr)) ∧ FM hp hp') := by
  refine KM.of rfl ok_X3_add (len_of rfl) hW.1.1 hW.1.2 ?_
  intro p e s m args below meth c A hC hN
  have h0 := hW.2 54 (by decide)
  have hp2 := p2_lt hn
  refine g_run hC 3 rfl ?_
  refine g_callV hC hN [.int x] (c_X3_isSet hW h hn x) rfl M_X3_63 h0 h.g100 rfl rfl (len_of rfl) (by decide) (by decide) ?_
  rintro r hp1 ⟨rfl, rfl⟩
  cases hb : setB wi x with
  | false =>
    refine g_ifne (tgt := 13) hC rfl (by decide) (fun h1 => absurd rfl h1) (fun _ => ?_)
    refine g_run hC 2 rfl ?_
    refine g_putI hC rfl F_X3_41 h0 h.g100 (len_of rfl) rfl rfl ?_
    have h2 := h.obj (th2 := 1) (wi2 := wi) (an2 := an) (li2 := li)
    refine g_run hC 1 rfl ?_
    refine g_get hC rfl F_X3_41 h0 h2.g100 rfl ?_
    refine g_ifle (tgt := 39) hC rfl (by decide) (fun h3 => absurd h3 (by decide)) (fun _ => ?_)
    refine g_run hC 1 rfl ?_
    exact g_iret hC rfl rfl ⟨Or.inl ⟨rfl, ⟨_, rfl⟩, h2⟩, FM.up (by decide) (by decide)⟩ (Nat.le_refl _) (Nat.le_refl _)
  | true =>
    obtain ⟨k, hk, rfl⟩ := (setB_iff hn).mp hb
    refine g_ifne (tgt := 13) hC rfl (by decide) (fun _ => ?_) (fun h1 => absurd h1 (by decide))
    refine g_run hC 1 rfl ?_
    refine g_get hC rfl F_X3_80 h0 h.g100 rfl ?_
    refine g_run hC 1 rfl ?_
    refine g_icne (tgt := 26) hC rfl (by decide) (fun h1 => ?_) (fun h1 => ?_)
    · have h9 : ¬ an = 40 := fun z => h1 (by rw [z]; rfl)
      refine g_run hC 1 rfl ?_
      refine g_putI hC rfl F_X3_41 h0 h.g100 (len_of rfl) rfl rfl ?_
      have h2 := h.obj (th2 := 0) (wi2 := wi) (an2 := an) (li2 := li)
      refine g_run hC 1 rfl ?_
      refine g_get hC rfl F_X3_41 h0 h2.g100 rfl ?_
      refine g_ifle (tgt := 39) hC rfl (by decide) (fun _ => ?_) (fun h3 => absurd (by decide) h3)
      refine g_run hC 1 rfl ?_
      refine g_get hC rfl F_X3_22 h0 h2.g100 rfl ?_
      refine g_run hC 2 rfl ?_
      refine g_get hC rfl F_X3_22 h0 h2.g100 rfl ?_
      refine g_run hC 1 rfl ?_
      refine g_lld hC k rfl (hW.2 59 (by decide)) h2.g105 rfl (by omega) (by decide) ?_
      refine g_run hC 3 rfl ?_
      refine g_lst hC k rfl (hW.2 59 (by decide)) h2.g105 rfl (by omega) (by decide) ?_
      have h3 := h2.s_cl (x9 := va_up cl k (cl k + y.toInt64))
      refine g_run hC 2 rfl ?_
      refine g_get hC rfl F_X3_80 h0 h3.g100 rfl ?_
      refine g_run hC 2 rfl ?_
      refine g_top (nI (an + 1)) (nI_s an) ?_
      refine g_putI hC rfl F_X3_80 h0 h3.g100 (len_of rfl) rfl rfl ?_
      have h4 := h3.obj (th2 := 0) (wi2 := wi) (an2 := an + 1) (li2 := li)
      refine g_run hC 2 rfl ?_
      refine g_putI hC rfl F_X3_52 h0 h4.g100 (len_of rfl) rfl rfl ?_
      have h5 := h4.obj (th2 := 0) (wi2 := wi) (an2 := an + 1) (li2 := 0)
      refine g_run hC 1 rfl ?_
      refine g_get hC rfl F_X3_80 h0 h5.g100 rfl ?_
      exact g_iret hC rfl rfl ⟨Or.inr (Or.inr ⟨k, hk, rfl, by omega, rfl, h5⟩), ((((FM.up (by decide) (by decide)).tr (FM.up (by decide) (by decide))).tr (FM.up (by decide) (by decide))).tr (FM.up (by decide) (by decide)))⟩ (Nat.le_refl _) (Nat.le_refl _)
    · have h9 : an = 40 := (nI_eq (b := 40) (by omega) (by decide)).mp h1
      refine g_run hC 2 rfl ?_
      refine g_putI hC rfl F_X3_41 h0 h.g100 (len_of rfl) rfl rfl ?_
      have h2 := h.obj (th2 := 2) (wi2 := wi) (an2 := an) (li2 := li)
      refine g_run hC 1 rfl ?_
      refine g_get hC rfl F_X3_41 h0 h2.g100 rfl ?_
      refine g_ifle (tgt := 39) hC rfl (by decide) (fun h3 => absurd h3 (by decide)) (fun _ => ?_)
      refine g_run hC 1 rfl ?_
      exact g_iret hC rfl rfl ⟨Or.inr (Or.inl ⟨rfl, h9, ⟨_, rfl⟩, h2⟩), FM.up (by decide) (by decide)⟩ (Nat.le_refl _) (Nat.le_refl _)
end
