def red (t : GT) (i p : Nat) : Nat := if gOut t p = 1 then p ||| 2 ^ i else p &&& (511 ^^^ 2 ^ i)
set_option maxRecDepth 100000 in
theorem clr_eq : ∀ i : Nat, i < 9 → ∀ p : Nat, p < 512 → nI p &&& (nI (2 ^ i) ^^^ cI (-1)) = nI (p &&& (511 ^^^ 2 ^ i)) := by decide +kernel
def aiN (inp o : Nat) : Nat → Bool
  | 0 => true
  | w + 1 => aiN inp o w && (!(decide (inp &&& 2 ^ w = 0)) || decide (o / 2 ^ w % 2 = 0))
theorem tb_mod (o w : Nat) : o / 2 ^ w % 2 = 0 ↔ o.testBit w = false := by
  rw [Nat.testBit_eq_decide_div_mod_eq]
  constructor
  · intro h; rw [h]; rfl
  · intro h
    have := of_decide_eq_false h
    omega
theorem and_tp (i n : Nat) : i &&& 2 ^ n = 0 ↔ i.testBit n = false := by
  constructor
  · intro h
    have h1 := congrArg (fun z => z.testBit n) h
    simp only [Nat.testBit_and, Nat.testBit_two_pow, Nat.zero_testBit, decide_true, Bool.and_true] at h1
    exact h1
  · intro h
    apply Nat.eq_of_testBit_eq
    intro j
    rw [Nat.testBit_and, Nat.testBit_two_pow, Nat.zero_testBit]
    by_cases hj : n = j
    · subst hj; rw [h]; rfl
    · rw [decide_eq_false hj, Bool.and_false]
theorem aiN_iff {inp o : Nat} : ∀ n, aiN inp o n = true ↔ ∀ w, w < n → inp.testBit w = false → o.testBit w = false
  | 0 => ⟨fun _ w h => absurd h (Nat.not_lt_zero w), fun _ => rfl⟩
  | n + 1 => by
    simp only [aiN, Bool.and_eq_true, Bool.or_eq_true, Bool.not_eq_true', decide_eq_false_iff_not, decide_eq_true_eq, aiN_iff n, and_tp, tb_mod]
    constructor
    · rintro ⟨h1, h2⟩ w hw hi
      by_cases h : w = n
      · subst h
        rcases h2 with h2 | h2
        · exact absurd hi h2
        · exact h2
      · exact h1 w (by omega) hi
    · intro h
      refine ⟨fun w hw => h w (by omega), ?_⟩
      by_cases h2 : inp.testBit n = false
      · exact Or.inr (h n (by omega) h2)
      · exact Or.inl h2
theorem ai_sub {inp o n : Nat} (ho : o < 2 ^ n) : aiN inp o n = true ↔ o &&& inp = o := by
  rw [aiN_iff]
  constructor
  · intro h
    apply Nat.eq_of_testBit_eq
    intro j
    rw [Nat.testBit_and]
    by_cases hj : j < n
    · cases hi : inp.testBit j with
      | false => rw [h j hj hi]; rfl
      | true => rw [Bool.and_true]
    · have : o.testBit j = false := Nat.testBit_lt_two_pow (Nat.lt_of_lt_of_le ho (Nat.pow_le_pow_right (by decide) (by omega)))
      rw [this]; rfl
  · intro h w _ hi
    rw [← h, Nat.testBit_and, hi, Bool.and_false]
theorem simN_eq {inp : Nat} {gt : Nat → GT} {o w : Nat} : simN inp gt o (w + 1) = if inp &&& 2 ^ w = 0 ∧ gOut (gt w) (simN inp gt o w) = 1 then simN inp gt o w ||| 2 ^ w else simN inp gt o w := rfl
theorem neg1_lt : cI (-1) < 0 := by decide
/-- the inputs that a call names are inputs -/
def inpOK (inp : Nat) (x : Int32) : Prop := ∃ o, o < 512 ∧ o &&& inp = o ∧ x = nI o
section
variable {l : Launch} {D : va_G} {dA ad sa : Nat → Nat} {L : List Nat} {hp : Nat → KE} {th wi an li inp : Nat} {ki fi se tr : Nat → Int32} {cl : Nat → Int64} {si st : Nat → Nat} {nu wo fr : Nat → Int64} {gt : Nat → GT}
theorem c_X3_redirected (hW : KF ad L) (h : MR hp th wi an li ki fi se tr cl si st nu wo fr) (w p0 : Nat) (t : GT) (hw : w < 9) (hG : mG ki fi se tr (w + 1) t) (hk : t.1 < 4) (ha : t.2.1 < 20) (hb : t.2.2.1 < 20) (hc : t.2.2.2.1 < 20) (hp0 : p0 < 512) : KM l yX3_redirected cX3_redirected 4 (some .int) (rmK 2 0 0) D dA ad sa L [.ref 54, .int (nI (w + 1)), .int (nI p0)] hp (fun r hp' => r = some (.int (nI (red t w p0))) ∧ hp' = hp) := by
  refine KM.of rfl ok_X3_redirected (len_of rfl) hW.1.1 hW.1.2 ?_
  intro p e s m args below meth c A hC hN
  refine g_run hC 9 rfl ?_
  refine g_lvs (lv' := [(1, .int (nI (w + 1))), (2, .int (nI p0)), (3, .int (nI (2 ^ w)))]) ?_ ⟨rfl, rfl, sI ?_, trivial⟩
  · refine g_callV hC hN [.int (nI (w + 1)), .int (nI p0)] (c_X3_made hW h (w + 1) p0 t (by omega) hG hk ha hb hc hp0) rfl M_X3_66 (hW.2 54 (by decide)) h.g100 rfl rfl (len_of rfl) (by decide) (by decide) ?_
    rintro r hp1 ⟨rfl, rfl⟩
    refine g_run hC 1 rfl ?_
    have hgo := gOut_lt (t := t) (p := p0)
    refine g_icne (tgt := 22) hC rfl (by decide) (fun h1 => ?_) (fun h1 => ?_)
    · have h2 : ¬ gOut t p0 = 1 := fun z => h1 (by rw [z]; rfl)
      refine g_run hC 5 rfl ?_
      refine g_top (nI (red t w p0)) ?_ (g_iret hC rfl rfl ⟨rfl, rfl⟩ (Nat.le_refl _) (Nat.le_refl _))
      unfold red
      rw [if_neg h2]
      exact clr_eq w hw p0 hp0
    · have h2 : gOut t p0 = 1 := (nI_eq (b := 1) (by omega) (by decide)).mp h1
      refine g_run hC 4 rfl ?_
      refine g_top (nI (red t w p0)) ?_ (g_iret hC rfl rfl ⟨rfl, rfl⟩ (Nat.le_refl _) (Nat.le_refl _))
      unfold red
      rw [if_pos h2]
      exact nI_or _ _
  · show cI 1 <<< ((nI (w + 1) - nI 1) &&& 31) = _
    rw [pk_sub (a := w + 1) (b := 1) (by omega), Nat.add_sub_cancel, shl_1 _ (by omega)]
theorem c_X3_areInputs (hW : KF ad L) (h : MR hp th wi an li ki fi se tr cl si st nu wo fr) (hn : wi ≤ 9) (hi : inp < 2 ^ wi) (hM : MGs wi inp gt ki fi se tr) (hgd : ∀ i, i < wi → inp &&& 2 ^ i = 0 → gGood i (gt i)) (x : Int32) : KM l yX3_areInputs cX3_areInputs 4 (some .boolean) (rmK 2 0 0) D dA ad sa L [.ref 54, .int x] hp (fun r hp' => (∃ b, r = some (.int (bI b)) ∧ (b = true ↔ inpOK inp x)) ∧ hp' = hp) := by
  refine KM.of rfl ok_X3_areInputs (len_of rfl) hW.1.1 hW.1.2 ?_
  intro p e s m args below meth c A hC hN
  have h0 := hW.2 54 (by decide)
  have h2 := p2_lt hn
  refine g_run hC 2 rfl ?_
  refine g_callV hC hN [.int x] (c_X3_isSet hW h hn x) rfl M_X3_63 h0 h.g100 rfl rfl (len_of rfl) (by decide) (by decide) ?_
  rintro r hp1 ⟨rfl, rfl⟩
  cases hb : setB wi x with
  | false =>
    refine g_ifne (tgt := 10) hC rfl (by decide) (fun h1 => absurd rfl h1) (fun _ => ?_)
    refine g_run hC 1 rfl ?_
    refine g_zret hC (nar_b false) rfl rfl ⟨⟨false, rfl, ⟨fun z => Bool.noConfusion z, ?_⟩⟩, rfl⟩ (Nat.le_refl _) (Nat.le_refl _)
    rintro ⟨o, ho, h3, rfl⟩
    have h4 : o < 2 ^ wi := Nat.lt_of_le_of_lt (by rw [← h3]; exact Nat.and_le_right) hi
    rw [(setB_iff hn).mpr ⟨o, h4, rfl⟩] at hb
    cases hb
  | true =>
    obtain ⟨o, ho, rfl⟩ := (setB_iff hn).mp hb
    refine g_ifne (tgt := 10) hC rfl (by decide) (fun _ => ?_) (fun h1 => absurd h1 (by decide))
    refine g_run hC 4 rfl ?_
    refine g_loop 0 wi (fun _ => hp1) (fun i => [(0, .ref 54), (1, .int (nI o)), (2, .int (bI (aiN inp o i))), (3, .int (nI (i + 1)))]) (Nat.zero_le _) rfl ⟨rfl, rfl, rfl, rfl, trivial⟩ ?_ ?_
    · intro i _ hin ih
      refine g_run hC 2 rfl ?_
      refine g_get hC rfl F_X3_45 h0 h.g100 rfl ?_
      refine g_icgt (tgt := 57) hC rfl (by decide) (fun h1 => ?_) (fun _ => ?_)
      · exact absurd ((nI_ltI (a := wi) (b := i + 1) (by omega) (by omega)).mp h1) (by omega)
      · refine g_run hC 1 rfl ?_
        refine g_cut hp1 50 [(0, .ref 54), (1, .int (nI o)), (3, .int (nI (i + 1)))] [.int (bI (aiN inp o (i + 1)))] ?_ (fun t50 => ?_)
        · refine g_run hC 3 rfl ?_
          exact g_lvs ih ⟨rfl, rfl, rfl, sI (nI_s (i + 1)), trivial⟩
        · simp only [aiN] at t50
          cases ha : aiN inp o i with
          | false =>
            rw [ha] at t50
            refine g_ifeq (tgt := 49) hC rfl (by decide) (fun _ => ?_) (fun h1 => absurd rfl h1)
            refine g_run hC 1 rfl ?_
            exact g_lvs t50 ⟨rfl, rfl, rfl, trivial⟩
          | true =>
            rw [ha, Bool.true_and] at t50
            refine g_ifeq (tgt := 49) hC rfl (by decide) (fun h1 => absurd h1 (by decide)) (fun _ => ?_)
            refine g_run hC 1 rfl ?_
            refine g_get hC rfl F_X3_7 h0 h.g100 rfl ?_
            refine g_run hC 1 rfl ?_
            refine g_ild hC (i + 1) rfl (hW.2 55 (by decide)) h.g101 rfl (by omega) (by decide) ?_
            by_cases hg : inp &&& 2 ^ i = 0
            · rw [decide_eq_true hg, Bool.not_true, Bool.false_or] at t50
              have hk := (hgd i hin hg).1
              rw [((hM i hin).1 hg).1]
              refine g_iflt (tgt := 45) hC rfl (by decide) (fun h1 => absurd h1 (nI_pos (by omega))) (fun _ => ?_)
              refine g_run hC 7 rfl ?_
              refine g_top (nI (o / 2 ^ i % 2)) ?_ ?_
              · show nI o >>> ((nI (i + 1) - nI 1) &&& 31) &&& nI 1 = _
                rw [pk_sub (a := i + 1) (b := 1) (by omega), Nat.add_sub_cancel, shr_p (by omega) (by omega), nI_and, Nat.and_one_is_mod]
              refine g_ifne (tgt := 49) hC rfl (by decide) (fun h1 => ?_) (fun h1 => ?_)
              · rw [decide_eq_false (fun z => h1 (by rw [z]; rfl))] at t50
                refine g_run hC 1 rfl ?_
                exact g_lvs t50 ⟨rfl, rfl, rfl, trivial⟩
              · rw [decide_eq_true ((nI_z (by omega)).mp h1)] at t50
                refine g_run hC 2 rfl ?_
                exact g_lvs t50 ⟨rfl, rfl, rfl, trivial⟩
            · rw [decide_eq_false hg, Bool.not_false, Bool.true_or] at t50
              rw [(hM i hin).2 hg]
              refine g_iflt (tgt := 45) hC rfl (by decide) (fun _ => ?_) (fun h1 => absurd neg1_lt h1)
              refine g_run hC 2 rfl ?_
              exact g_lvs t50 ⟨rfl, rfl, rfl, trivial⟩
    · refine g_run hC 2 rfl ?_
      refine g_get hC rfl F_X3_45 h0 h.g100 rfl ?_
      refine g_icgt (tgt := 57) hC rfl (by decide) (fun _ => ?_) (fun h1 => absurd (nI_lt (Nat.lt_succ_self wi) (by omega)) h1)
      refine g_run hC 1 rfl ?_
      refine g_zret hC (nar_b _) rfl rfl ⟨⟨_, rfl, ?_⟩, rfl⟩ (Nat.le_refl _) (Nat.le_refl _)
      rw [ai_sub ho]
      constructor
      · exact fun z => ⟨o, by omega, z, rfl⟩
      · rintro ⟨o2, h3, h4, h5⟩
        have h6 : o = o2 := (nI_eq (by omega) (by omega)).mp h5
        rw [h6]; exact h4
theorem c_X3_settled (hW : KF ad L) (h : MR hp th wi an li ki fi se tr cl si st nu wo fr) (hn : wi ≤ 9) (hM : MGs wi inp gt ki fi se tr) (hgd : ∀ i, i < wi → inp &&& 2 ^ i = 0 → gGood i (gt i)) (o : Nat) (ho : o < 512) : KM l yX3_settled cX3_settled 4 (some .int) (rmK 2 0 0) D dA ad sa L [.ref 54, .int (nI o)] hp (fun r hp' => r = some (.int (nI (simN inp gt o wi))) ∧ hp' = hp) := by
  refine KM.of rfl ok_X3_settled (len_of rfl) hW.1.1 hW.1.2 ?_
  intro p e s m args below meth c A hC hN
  have h0 := hW.2 54 (by decide)
  refine g_run hC 4 rfl ?_
  refine g_loop 0 wi (fun _ => hp) (fun i => [(0, .ref 54), (2, .int (nI (simN inp gt o i))), (3, .int (nI (i + 1)))]) (Nat.zero_le _) rfl ⟨rfl, rfl, rfl, trivial⟩ ?_ ?_
  · intro i _ hin ih
    have ho1 := simN_lt (inp := inp) (gt := gt) ho i (by omega)
    refine g_run hC 2 rfl ?_
    refine g_get hC rfl F_X3_45 h0 h.g100 rfl ?_
    refine g_icgt (tgt := 49) hC rfl (by decide) (fun h1 => ?_) (fun _ => ?_)
    · exact absurd ((nI_ltI (a := wi) (b := i + 1) (by omega) (by omega)).mp h1) (by omega)
    · refine g_run hC 1 rfl ?_
      refine g_get hC rfl F_X3_7 h0 h.g100 rfl ?_
      refine g_run hC 1 rfl ?_
      refine g_ild hC (i + 1) rfl (hW.2 55 (by decide)) h.g101 rfl (by omega) (by decide) ?_
      refine g_cut hp 42 [(0, .ref 54), (3, .int (nI (i + 1)))] [.int (nI (simN inp gt o (i + 1)))] ?_ (fun t42 => ?_)
      · refine g_run hC 3 rfl ?_
        exact g_lvs ih ⟨rfl, rfl, sI (nI_s (i + 1)), trivial⟩
      · rw [simN_eq] at t42
        by_cases hg : inp &&& 2 ^ i = 0
        · have hgg := hgd i hin hg
          obtain ⟨k1, k2, k3, k4, -, -⟩ := hgg
          rw [((hM i hin).1 hg).1]
          refine g_iflt (tgt := 41) hC rfl (by decide) (fun h1 => absurd h1 (nI_pos (by omega))) (fun _ => ?_)
          refine g_run hC 3 rfl ?_
          refine g_callV hC hN [.int (nI (i + 1)), .int (nI (simN inp gt o i))] (c_X3_made hW h (i + 1) _ (gt i) (by omega) ((hM i hin).1 hg) k1 (by omega) (by omega) (by omega) ho1) rfl M_X3_66 h0 h.g100 rfl rfl (len_of rfl) (by decide) (by decide) ?_
          rintro r hp1 ⟨rfl, rfl⟩
          refine g_run hC 1 rfl ?_
          have hgo := gOut_lt (t := gt i) (p := simN inp gt o i)
          refine g_icne (tgt := 41) hC rfl (by decide) (fun h1 => ?_) (fun h1 => ?_)
          · rw [if_neg (fun z => h1 (by rw [z.2]; rfl))] at t42
            refine g_run hC 1 rfl ?_
            exact g_lvs t42 ⟨rfl, rfl, trivial⟩
          · rw [if_pos ⟨hg, (nI_eq (b := 1) (by omega) (by decide)).mp h1⟩] at t42
            refine g_run hC 8 rfl ?_
            refine g_top (nI (simN inp gt o i ||| 2 ^ i)) ?_ (g_lvs t42 ⟨rfl, rfl, trivial⟩)
            show nI (simN inp gt o i) ||| cI 1 <<< ((nI (i + 1) - nI 1) &&& 31) = _
            rw [pk_sub (a := i + 1) (b := 1) (by omega), Nat.add_sub_cancel, shl_1 _ (by omega), nI_or]
        · rw [if_neg (fun z => hg z.1)] at t42
          rw [(hM i hin).2 hg]
          refine g_iflt (tgt := 41) hC rfl (by decide) (fun _ => ?_) (fun h1 => absurd neg1_lt h1)
          refine g_run hC 1 rfl ?_
          exact g_lvs t42 ⟨rfl, rfl, trivial⟩
  · refine g_run hC 2 rfl ?_
    refine g_get hC rfl F_X3_45 h0 h.g100 rfl ?_
    refine g_icgt (tgt := 49) hC rfl (by decide) (fun _ => ?_) (fun h1 => absurd (nI_lt (Nat.lt_succ_self wi) (by omega)) h1)
    refine g_run hC 1 rfl ?_
    exact g_iret hC rfl rfl ⟨rfl, rfl⟩ (Nat.le_refl _) (Nat.le_refl _)
theorem c_X3_claimed (hW : KF ad L) (h : MR hp th wi an li ki fi se tr cl si st nu wo fr) (hn : wi ≤ 9) (o : Nat) (ho : o < 512) : KM l yX3_claimed cX3_claimed 5 (some .long) (rmK 0 0 0) D dA ad sa L [.ref 54, .int (nI o)] hp (fun r hp' => r = some (.long (vsN cl o (2 ^ wi))) ∧ hp' = hp) := by
  refine KM.of rfl ok_X3_claimed (len_of rfl) hW.1.1 hW.1.2 ?_
  intro p e s m args below meth c A hC hN
  have h0 := hW.2 54 (by decide)
  have h2 := p2_lt hn
  refine g_run hC 4 rfl ?_
  refine g_loop 0 (2 ^ wi) (fun _ => hp) (fun i => [(0, .ref 54), (1, .int (nI o)), (2, .long (vsN cl o i)), (4, .int (nI i))]) (Nat.zero_le _) rfl ⟨rfl, rfl, rfl, rfl, trivial⟩ ?_ ?_
  · intro i _ hin ih
    refine g_run hC 3 rfl ?_
    refine g_get hC rfl F_X3_45 h0 h.g100 rfl ?_
    refine g_run hC 1 rfl ?_
    refine g_top (nI (2 ^ wi)) (shl_1 wi (by omega)) ?_
    refine g_icge (tgt := 45) hC rfl (by decide) (fun h1 => ?_) (fun _ => ?_)
    · exact absurd ((nI_leI (a := 2 ^ wi) (b := i) (by omega) (by omega)).mp h1) (by omega)
    · refine g_run hC 4 rfl ?_
      refine g_cut hp 38 [(0, .ref 54), (1, .int (nI o)), (4, .int (nI i))] [.long (vsN cl o (i + 1))] ?_ (fun t38 => ?_)
      · refine g_run hC 3 rfl ?_
        exact g_lvs ih ⟨rfl, rfl, rfl, sI (nI_s i), trivial⟩
      · simp only [vsN] at t38
        have hE : nI i &&& nI o = nI i ↔ i &&& o = i := by rw [nI_and]; exact nI_eq (Nat.lt_of_le_of_lt Nat.and_le_left (by omega)) (by omega)
        refine g_icne (tgt := 37) hC rfl (by decide) (fun h1 => ?_) (fun h1 => ?_)
        · rw [if_neg (fun z => h1 (hE.mpr z))] at t38
          refine g_run hC 1 rfl ?_
          exact g_lvs t38 ⟨rfl, rfl, rfl, trivial⟩
        · rw [if_pos (hE.mp h1)] at t38
          refine g_run hC 2 rfl ?_
          refine g_get hC rfl F_X3_22 h0 h.g100 rfl ?_
          refine g_run hC 1 rfl ?_
          refine g_lld hC i rfl (hW.2 59 (by decide)) h.g105 rfl (by omega) (by decide) ?_
          refine g_run hC 2 rfl ?_
          exact g_lvs t38 ⟨rfl, rfl, rfl, trivial⟩
  · refine g_run hC 3 rfl ?_
    refine g_get hC rfl F_X3_45 h0 h.g100 rfl ?_
    refine g_run hC 1 rfl ?_
    refine g_top (nI (2 ^ wi)) (shl_1 wi (by omega)) ?_
    refine g_icge (tgt := 45) hC rfl (by decide) (fun _ => ?_) (fun h1 => absurd (Int32.le_refl _) h1)
    refine g_run hC 1 rfl ?_
    exact g_lret hC rfl rfl ⟨rfl, rfl⟩ (Nat.le_refl _) (Nat.le_refl _)
end
