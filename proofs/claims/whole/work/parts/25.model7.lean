section
variable {l : Launch} {D : va_G} {dA ad sa : Nat → Nat} {L : List Nat} {hp : Nat → KE} {th wi an li inp : Nat} {ki fi se tr : Nat → Int32} {cl : Nat → Int64} {si st : Nat → Nat} {nu wo fr : Nat → Int64} {gt : Nat → GT} {rs : Nat → Nat → Int64}
theorem c_X3_many (hW : KF ad L) (hp : Nat → KE) (s0 : Nat) (hs : s0 < 512) : KM l yX3_many cX3_many 3 (some .int) (rmK 0 0 0) D dA ad sa L [.int (nI s0)] hp (fun r hp' => r = some (.int (nI (popN s0))) ∧ hp' = hp) := by
  refine KM.of rfl ok_X3_many (len_of rfl) hW.1.1 hW.1.2 ?_
  intro p e s m args below meth c A hC hN
  refine g_run hC 4 rfl ?_
  refine g_loop 0 9 (fun _ => hp) (fun k => [(0, .int (nI s0)), (1, .int (nI (mN s0 k))), (2, .int (nI k))]) (Nat.zero_le _) rfl ⟨rfl, rfl, rfl, trivial⟩ ?_ ?_
  · intro k _ hk ih
    refine g_run hC 2 rfl ?_
    refine g_icge (tgt := 24) hC rfl (by decide) (fun h1 => ?_) (fun _ => ?_)
    · exact absurd ((nI_leI (a := 9) (b := k) (by decide) (by omega)).mp h1) (by omega)
    · refine g_run hC 10 rfl ?_
      refine g_lvs ih ⟨rfl, sI ?_, sI (nI_s k), trivial⟩
      show nI (mN s0 k) + (nI s0 >>> (nI k &&& 31) &&& nI 1) = _
      rw [shr_p (by omega) (by omega), nI_and, Nat.and_one_is_mod, nI_add]
      rfl
  · refine g_run hC 2 rfl ?_
    refine g_icge (tgt := 24) hC rfl (by decide) (fun _ => ?_) (fun h1 => absurd (Int32.le_refl _) h1)
    refine g_run hC 1 rfl ?_
    refine g_iret hC rfl rfl ⟨?_, rfl⟩ (Nat.le_refl _) (Nat.le_refl _)
    rw [← mN_pop]
theorem c_X3_witness (hW : KF ad L) (h : MR hp th wi an li ki fi se tr cl si st nu wo fr) (hn : wi ≤ 9) (hl : li ≤ 10) (hLN : ∀ k, k < li → LN wi si st nu k (rs k)) : KM l yX3_witness cX3_witness 3 (some .int) (rmK 1 0 0) D dA ad sa L [.ref 54] hp
    (fun r hp' => (∃ t, MR hp' t wi an li ki fi se tr cl si st nu wo fr ∧ ((li = 0 ∧ t = 1 ∧ ∃ v, r = some (.int v)) ∨ (¬ li = 0 ∧ si (li - 1) = 0 ∧ t = 2 ∧ ∃ v, r = some (.int v)) ∨ (¬ li = 0 ∧ ¬ si (li - 1) = 0 ∧ t = 0 ∧ r = some (.int (bV (wtN (rs (li - 1)) (2 ^ wi))))))) ∧ FM hp hp') := by
  refine KM.of rfl ok_X3_witness (len_of rfl) hW.1.1 hW.1.2 ?_
  intro p e s m args below meth c A hC hN
  have h0 := hW.2 54 (by decide)
  have hp2 := p2_lt hn
  have hp0 : 0 < 2 ^ wi := Nat.two_pow_pos wi
  refine g_cutA (ι := Nat) (fun t => (li = 0 ∧ t = 1) ∨ (¬ li = 0 ∧ si (li - 1) = 0 ∧ t = 2)) (fun t => va_up hp 54 (MObj t wi an li)) 34 (fun _ => [(0, .ref 54)]) (fun _ => []) ?_ (fun bad => ?_)
  · intro t ht
    have h2 := h.obj (th2 := t) (wi2 := wi) (an2 := an) (li2 := li)
    have ht0 : 0 < t ∧ t < 3 := by omega
    refine g_run hC 4 rfl ?_
    refine g_run hC 3 rfl ?_
    refine g_get hC rfl F_X3_45 h0 h2.g100 rfl ?_
    refine g_run hC 1 rfl ?_
    refine g_top (nI (2 ^ wi)) (shl_1 wi (by omega)) ?_
    refine g_icge (tgt := 96) hC rfl (by decide) (fun h1 => ?_) (fun _ => ?_)
    · exact absurd ((nI_leI (a := 2 ^ wi) (b := 0) (by omega) (by omega)).mp h1) (by omega)
    refine g_run hC 1 rfl ?_
    refine g_get hC rfl F_X3_41 h0 h2.g100 rfl ?_
    refine g_ifne (tgt := 96) hC rfl (by decide) (fun _ => ?_) (fun h3 => absurd ((nI_z (by omega)).mp h3) (by omega))
    refine g_run hC 1 rfl ?_
    refine g_get hC rfl F_X3_41 h0 h2.g100 rfl ?_
    refine g_ifle (tgt := 107) hC rfl (by decide) (fun h3 => ?_) (fun _ => ?_)
    · have := (nI_leI (a := t) (b := 0) (by omega) (by decide)).mp h3
      omega
    · refine g_run hC 2 rfl ?_
      refine g_iret hC rfl rfl ⟨⟨t, h2, ?_⟩, FM.up (by decide) (by decide)⟩ (Nat.le_refl _) (Nat.le_refl _)
      rcases ht with ⟨q1, q2⟩ | ⟨q1, q2, q3⟩
      · exact Or.inl ⟨q1, q2, _, rfl⟩
      · exact Or.inr (Or.inl ⟨q1, q2, q3, _, rfl⟩)
  refine g_run hC 2 rfl ?_
  refine g_get hC rfl F_X3_52 h0 h.g100 rfl ?_
  refine g_ifne (tgt := 12) hC rfl (by decide) (fun h1 => ?_) (fun h1 => ?_)
  · have hli : ¬ li = 0 := fun z => h1 (by rw [z]; rfl)
    have hLk := hLN (li - 1) (by omega)
    have hsz := hLk.1
    refine g_run hC 1 rfl ?_
    refine g_get hC rfl F_X3_26 h0 h.g100 rfl ?_
    refine g_run hC 1 rfl ?_
    refine g_get hC rfl F_X3_52 h0 h.g100 rfl ?_
    refine g_run hC 2 rfl ?_
    refine g_ild hC (li - 1) rfl (hW.2 60 (by decide)) h.g106 (pk_sub (a := li) (b := 1) (by omega)) (by omega) (by decide) ?_
    refine g_ifne (tgt := 30) hC rfl (by decide) (fun h2 => ?_) (fun h2 => ?_)
    · have hs0 : ¬ si (li - 1) = 0 := fun z => h2 (by show nI (si (li - 1)) = 0; rw [z]; rfl)
      refine g_run hC 1 rfl ?_
      refine g_putI hC rfl F_X3_41 h0 h.g100 (len_of rfl) rfl rfl ?_
      have h3 := h.obj (th2 := 0) (wi2 := wi) (an2 := an) (li2 := li)
      have f3 : FM hp (va_up hp 54 (MObj 0 wi an li)) := FM.up (by decide) (by decide)
      refine g_run hC 4 rfl ?_
      generalize hH : va_up hp 54 (MObj 0 wi an li) = hp4 at h3 f3
      refine g_loop 0 (2 ^ wi) (fun _ => hp4) (fun k => [(0, .ref 54), (1, .int (bV (wtN (rs (li - 1)) k))), (2, .int (nI k))]) (Nat.zero_le _) hH ⟨rfl, rfl, rfl, trivial⟩ ?_ ?_
      · intro k _ hk ih
        refine g_run hC 3 rfl ?_
        refine g_get hC rfl F_X3_45 h0 h3.g100 rfl ?_
        refine g_run hC 1 rfl ?_
        refine g_top (nI (2 ^ wi)) (shl_1 wi (by omega)) ?_
        refine g_icge (tgt := 96) hC rfl (by decide) (fun h1 => ?_) (fun _ => ?_)
        · exact absurd ((nI_leI (a := 2 ^ wi) (b := k) (by omega) (by omega)).mp h1) (by omega)
        refine g_run hC 1 rfl ?_
        refine g_get hC rfl F_X3_41 h0 h3.g100 rfl ?_
        refine g_ifne (tgt := 96) hC rfl (by decide) (fun h8 => absurd rfl h8) (fun _ => ?_)
        refine g_cutA (ι := Unit) (fun _ => True) (fun _ => hp4) 89 (fun _ => [(0, .ref 54), (2, .int (nI k))]) (fun _ => [.int (bV (wtN (rs (li - 1)) (k + 1)))]) ?_ (fun t89 => ?_)
        · intro _ _
          refine g_run hC 3 rfl ?_
          exact g_lvs ih ⟨rfl, rfl, sI (nI_s k), trivial⟩
        refine g_run hC 2 rfl ?_
        refine g_get hC rfl F_X3_52 h0 h3.g100 rfl ?_
        refine g_run hC 2 rfl ?_
        refine g_top (nI (li - 1)) (pk_sub (a := li) (b := 1) (by omega)) ?_
        refine g_run hC 1 rfl ?_
        refine g_callV hC hN [.int (nI (li - 1)), .int (nI k)] (c_X3_find hW h3 (li - 1) k (by omega) hsz (hLk.lt hn) (by omega)) rfl M_X3_83 h0 h3.g100 rfl rfl (len_of rfl) (by decide) (by decide) ?_
        rintro r hp5 ⟨⟨i, hi, h8, rfl⟩ | ⟨h8, rfl⟩, rfl⟩
        · have hnz := hLk.nz hi h8
          simp only [wtN] at t89
          rw [if_neg hnz] at t89
          refine g_iflt (tgt := 88) hC rfl (by decide) (fun h9 => absurd h9 (nI_pos (by omega))) (fun _ => ?_)
          refine g_run hC 1 rfl ?_
          cases hw : wtN (rs (li - 1)) k with
          | none =>
            rw [hw] at t89
            refine g_iflt (tgt := 84) hC rfl (by decide) (fun _ => ?_) (fun h9 => absurd neg1_lt h9)
            refine g_run hC 2 rfl ?_
            exact g_lvs (t89 () trivial) ⟨rfl, rfl, trivial⟩
          | some b =>
            rw [hw] at t89
            have hb := wtN_lt hw
            refine g_iflt (tgt := 84) hC rfl (by decide) (fun h9 => absurd h9 (nI_pos (n := b) (by omega))) (fun _ => ?_)
            refine g_run hC 1 rfl ?_
            refine g_callS hC hN [.int (nI k)] (c_X3_many hW hp5 k (by omega)) rfl M_X3_123 rfl (len_of rfl) (by decide) (by decide) ?_
            rintro r hp6 ⟨rfl, rfl⟩
            refine g_run hC 1 rfl ?_
            refine g_callS hC hN [.int (nI b)] (c_X3_many hW hp6 b (by omega)) rfl M_X3_123 rfl (len_of rfl) (by decide) (by decide) ?_
            rintro r hp7 ⟨rfl, rfl⟩
            have q1 := mN_le k 9
            have q2 := mN_le b 9
            rw [mN_pop] at q1 q2
            dsimp only at t89
            refine g_icge (tgt := 88) hC rfl (by decide) (fun h9 => ?_) (fun h9 => ?_)
            · have h10 := (nI_leI (a := popN b) (b := popN k) (by omega) (by omega)).mp h9
              rw [if_neg (by omega)] at t89
              refine g_run hC 1 rfl ?_
              exact g_lvs (t89 () trivial) ⟨rfl, rfl, trivial⟩
            · have h10 : ¬ popN b ≤ popN k := fun z => h9 ((nI_leI (a := popN b) (b := popN k) (by omega) (by omega)).mpr z)
              rw [if_pos (by omega)] at t89
              refine g_run hC 2 rfl ?_
              exact g_lvs (t89 () trivial) ⟨rfl, rfl, trivial⟩
        · have hzr := hLk.zr (by omega) h8
          simp only [wtN] at t89
          rw [if_pos hzr] at t89
          refine g_iflt (tgt := 88) hC rfl (by decide) (fun _ => ?_) (fun h9 => absurd neg1_lt h9)
          refine g_run hC 1 rfl ?_
          exact g_lvs (t89 () trivial) ⟨rfl, rfl, trivial⟩
      · refine g_run hC 3 rfl ?_
        refine g_get hC rfl F_X3_45 h0 h3.g100 rfl ?_
        refine g_run hC 1 rfl ?_
        refine g_top (nI (2 ^ wi)) (shl_1 wi (by omega)) ?_
        refine g_icge (tgt := 96) hC rfl (by decide) (fun _ => ?_) (fun h1 => absurd (Int32.le_refl _) h1)
        refine g_run hC 1 rfl ?_
        refine g_get hC rfl F_X3_41 h0 h3.g100 rfl ?_
        refine g_ifle (tgt := 107) hC rfl (by decide) (fun _ => ?_) (fun h5 => absurd (by decide) h5)
        refine g_run hC 1 rfl ?_
        exact g_iret hC rfl rfl ⟨⟨0, h3, Or.inr (Or.inr ⟨hli, hs0, rfl, rfl⟩)⟩, f3⟩ (Nat.le_refl _) (Nat.le_refl _)
    · have hs0 : si (li - 1) = 0 := (nI_z (by omega)).mp h2
      refine g_run hC 2 rfl ?_
      refine g_putI hC rfl F_X3_41 h0 h.g100 (len_of rfl) rfl rfl ?_
      exact bad 2 (Or.inr ⟨hli, hs0, rfl⟩)
  · have hli : li = 0 := (nI_z (by omega)).mp h1
    refine g_run hC 2 rfl ?_
    refine g_putI hC rfl F_X3_41 h0 h.g100 (len_of rfl) rfl rfl ?_
    exact bad 1 (Or.inl ⟨hli, rfl⟩)
theorem c_X3_clear (hW : KF ad L) (h : MR hp th wi an li ki fi se tr cl si st nu wo fr) : KM l yX3_clear cX3_clear 3 (some .int) (rmK 0 0 0) D dA ad sa L [.ref 54] hp
    (fun r hp' => r = some (.int (nI wi)) ∧ MR hp' 0 0 0 0 ki fi se tr (fun j => if j < 512 then 0 else cl j) si st nu wo fr ∧ FM hp hp') := by
  refine KM.of rfl ok_X3_clear (len_of rfl) hW.1.1 hW.1.2 ?_
  intro p e s m args below meth c A hC hN
  have h0 := hW.2 54 (by decide)
  have h105 := hW.2 59 (by decide)
  refine g_run hC 2 rfl ?_
  refine g_putI hC rfl F_X3_41 h0 h.g100 (len_of rfl) rfl rfl ?_
  have h2 := h.obj (th2 := 0) (wi2 := wi) (an2 := an) (li2 := li)
  refine g_run hC 1 rfl ?_
  refine g_get hC rfl F_X3_45 h0 h2.g100 rfl ?_
  refine g_run hC 3 rfl ?_
  refine g_putI hC rfl F_X3_45 h0 h2.g100 (len_of rfl) rfl rfl ?_
  have h3 := h2.obj (th2 := 0) (wi2 := 0) (an2 := an) (li2 := li)
  refine g_run hC 2 rfl ?_
  refine g_putI hC rfl F_X3_80 h0 h3.g100 (len_of rfl) rfl rfl ?_
  have h4 := h3.obj (th2 := 0) (wi2 := 0) (an2 := 0) (li2 := li)
  refine g_run hC 2 rfl ?_
  refine g_putI hC rfl F_X3_52 h0 h4.g100 (len_of rfl) rfl rfl ?_
  have h5 := h4.obj (th2 := 0) (wi2 := 0) (an2 := 0) (li2 := 0)
  have f5 : FM hp (va_up (va_up (va_up (va_up hp 54 (MObj 0 wi an li)) 54 (MObj 0 0 an li)) 54 (MObj 0 0 0 li)) 54 (MObj 0 0 0 0)) := (((FM.up (by decide) (by decide)).tr (FM.up (by decide) (by decide))).tr (FM.up (by decide) (by decide))).tr (FM.up (by decide) (by decide))
  generalize hH : va_up (va_up (va_up (va_up hp 54 (MObj 0 wi an li)) 54 (MObj 0 0 an li)) 54 (MObj 0 0 0 li)) 54 (MObj 0 0 0 0) = hp5 at h5 f5
  refine g_run hC 2 rfl ?_
  have hU : ∀ w9 : Nat → Int64, MR (va_up hp5 59 (kJ 512 w9)) 0 0 0 0 ki fi se tr w9 si st nu wo fr := fun w9 => h5.s_cl
  refine g_loop 0 512 (fun q => va_up hp5 59 (kJ 512 (fun j => if j < q then 0 else cl j))) (fun q => [(0, .ref 54), (1, .int (nI wi)), (2, .int (nI q))]) (Nat.zero_le _) ?_ ⟨rfl, rfl, rfl, trivial⟩ ?_ ?_
  · rw [show (fun j => if j < 0 then 0 else cl j) = cl from by funext j; simp]
    exact Eq.trans hH (up_same h5.g105).symm
  · intro q _ hq ih
    refine g_run hC 2 rfl ?_
    refine g_icge (tgt := 47) hC rfl (by decide) (fun h1 => ?_) (fun _ => ?_)
    · exact absurd ((nI_leI (a := 512) (b := q) (by decide) (by omega)).mp h1) (by omega)
    · refine g_run hC 1 rfl ?_
      refine g_get hC rfl F_X3_22 h0 (hU _).g100 rfl ?_
      refine g_run hC 2 rfl ?_
      refine g_lst hC q rfl h105 (hU _).g105 rfl (by omega) (by decide) ?_
      refine g_run hC 2 rfl ?_
      refine g_hp ?_ (g_lvs ih ⟨rfl, rfl, sI (nI_s q), trivial⟩)
      rw [up_up]
      congr 2
      funext j
      by_cases hj : j = q
      · subst hj; rw [va_up_self, if_pos (by omega)]; rfl
      · rw [va_up_ne _ _ hj]
        by_cases h5 : j < q
        · rw [if_pos h5, if_pos (by omega)]
        · rw [if_neg h5, if_neg (by omega)]
  · refine g_run hC 2 rfl ?_
    refine g_icge (tgt := 47) hC rfl (by decide) (fun _ => ?_) (fun h1 => absurd (Int32.le_refl _) h1)
    refine g_run hC 1 rfl ?_
    exact g_iret hC rfl rfl ⟨rfl, hU _, f5.tr (FM.up (by decide) (by decide))⟩ (Nat.le_refl _) (Nat.le_refl _)
end
