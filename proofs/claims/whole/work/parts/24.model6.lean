theorem lackN_lt (li : Nat) (x : Int32) : lackN li x < 3 := by
  unfold lackN
  split
  · decide
  · split <;> decide
theorem lackN_0 {li : Nat} {x : Int32} (hl : li ≤ 10) (h : lackN li x = 0) : ∃ k, k < li ∧ x = nI k := by
  unfold lackN at h
  split at h
  · exact absurd h (by decide)
  · split at h
    · rename_i hb
      exact (lineB_iff hl).mp hb
    · exact absurd h (by decide)
section
variable {l : Launch} {D : va_G} {dA ad sa : Nat → Nat} {L : List Nat} {hp : Nat → KE} {th wi an li inp : Nat} {ki fi se tr : Nat → Int32} {cl : Nat → Int64} {si st : Nat → Nat} {nu wo fr : Nat → Int64} {gt : Nat → GT} {rs : Nat → Nat → Int64}
theorem c_X3_lack (hW : KF ad L) (h : MR hp th wi an li ki fi se tr cl si st nu wo fr) (hl : li ≤ 10) (x : Int32) : KM l yX3_lack cX3_lack 2 (some .int) (rmK 1 0 0) D dA ad sa L [.ref 54, .int x] hp (fun r hp' => r = some (.int (nI (lackN li x))) ∧ hp' = hp) := by
  refine KM.of rfl ok_X3_lack (len_of rfl) hW.1.1 hW.1.2 ?_
  intro p e s m args below meth c A hC hN
  have h0 := hW.2 54 (by decide)
  refine g_run hC 1 rfl ?_
  refine g_get hC rfl F_X3_52 h0 h.g100 rfl ?_
  refine g_ifne (tgt := 11) hC rfl (by decide) (fun h1 => ?_) (fun h1 => ?_)
  · have hli : ¬ li = 0 := fun z => h1 (by rw [z]; rfl)
    refine g_run hC 3 rfl ?_
    refine g_get hC rfl F_X3_52 h0 h.g100 rfl ?_
    refine g_run hC 2 rfl ?_
    refine g_top (nI (li - 1)) (pk_sub (a := li) (b := 1) (by omega)) ?_
    refine g_callS hC hN [.int x, .int (nI 0), .int (nI (li - 1))] (c_X3_within hW hp x _ _) rfl M_X3_48 rfl (len_of rfl) (by decide) (by decide) ?_
    rintro r hp1 ⟨rfl, rfl⟩
    rw [lineM hli hl]
    cases hb : lineB li x with
    | false =>
      refine g_ifeq (tgt := 29) hC rfl (by decide) (fun _ => ?_) (fun h2 => absurd rfl h2)
      refine g_run hC 1 rfl ?_
      refine g_iret hC rfl rfl ⟨?_, rfl⟩ (Nat.le_refl _) (Nat.le_refl _)
      unfold lackN; rw [if_neg hli, if_neg (by rw [hb]; decide)]; rfl
    | true =>
      refine g_ifeq (tgt := 29) hC rfl (by decide) (fun h2 => absurd h2 (by decide)) (fun _ => ?_)
      refine g_run hC 2 rfl ?_
      refine g_iret hC rfl rfl ⟨?_, rfl⟩ (Nat.le_refl _) (Nat.le_refl _)
      unfold lackN; rw [if_neg hli, if_pos hb]; rfl
  · have hli : li = 0 := (nI_z (by omega)).mp h1
    refine g_run hC 2 rfl ?_
    refine g_iret hC rfl rfl ⟨?_, rfl⟩ (Nat.le_refl _) (Nat.le_refl _)
    unfold lackN; rw [if_pos hli]; rfl
theorem c_X3_size (hW : KF ad L) (h : MR hp th wi an li ki fi se tr cl si st nu wo fr) (hl : li ≤ 10) (x : Int32) : KM l yX3_size cX3_size 2 (some .int) (rmK 2 0 0) D dA ad sa L [.ref 54, .int x] hp
    (fun r hp' => (∃ v, r = some (.int v) ∧ (lackN li x = 0 → ∃ k, k < li ∧ x = nI k ∧ v = nI (si k))) ∧ MR hp' (lackN li x) wi an li ki fi se tr cl si st nu wo fr ∧ FM hp hp') := by
  refine KM.of rfl ok_X3_size (len_of rfl) hW.1.1 hW.1.2 ?_
  intro p e s m args below meth c A hC hN
  have h0 := hW.2 54 (by decide)
  have hlt := lackN_lt li x
  refine g_run hC 3 rfl ?_
  refine g_callV hC hN [.int x] (c_X3_lack hW h hl x) rfl M_X3_110 h0 h.g100 rfl rfl (len_of rfl) (by decide) (by decide) ?_
  rintro r hp1 ⟨rfl, rfl⟩
  refine g_putI hC rfl F_X3_41 h0 h.g100 (len_of rfl) rfl rfl ?_
  have h2 := h.obj (th2 := lackN li x) (wi2 := wi) (an2 := an) (li2 := li)
  refine g_run hC 1 rfl ?_
  refine g_get hC rfl F_X3_41 h0 h2.g100 rfl ?_
  by_cases hz : lackN li x = 0
  · obtain ⟨k, hk, hx⟩ := lackN_0 hl hz
    refine g_ifle (tgt := 20) hC rfl (by decide) (fun _ => ?_) (fun h3 => absurd (by rw [hz]; decide) h3)
    refine g_run hC 1 rfl ?_
    refine g_get hC rfl F_X3_26 h0 h2.g100 rfl ?_
    refine g_run hC 1 rfl ?_
    refine g_ild hC k rfl (hW.2 60 (by decide)) h2.g106 hx (by omega) (by decide) ?_
    exact g_iret hC rfl rfl ⟨⟨_, rfl, fun _ => ⟨k, hk, hx, rfl⟩⟩, h2, FM.up (by decide) (by decide)⟩ (Nat.le_refl _) (Nat.le_refl _)
  · refine g_ifle (tgt := 20) hC rfl (by decide) (fun h3 => ?_) (fun _ => ?_)
    · have := (nI_leI (a := lackN li x) (b := 0) (by omega) (by decide)).mp h3
      exact absurd (Nat.le_zero.mp this) hz
    · refine g_run hC 2 rfl ?_
      exact g_iret hC rfl rfl ⟨⟨_, rfl, fun z => absurd z hz⟩, h2, FM.up (by decide) (by decide)⟩ (Nat.le_refl _) (Nat.le_refl _)
theorem LN.nz {n k : Nat} {row : Nat → Int64} (hL : LN n si st nu k row) {i : Nat} (hi : i < si k) {s0 : Nat} (h : st (40 * k + i) = s0) : ¬ row s0 = 0 := by
  have := (hL.2.2.1 i hi).2.2
  rw [h] at this
  exact this
theorem LN.zr {n k : Nat} {row : Nat → Int64} (hL : LN n si st nu k row) {s0 : Nat} (hs : s0 < 512) (h : ∀ i, i < si k → ¬ st (40 * k + i) = s0) : row s0 = 0 := by
  by_cases hr : row s0 = 0
  · exact hr
  · obtain ⟨i, hi, h3⟩ := hL.2.2.2.1 s0 hs hr
    exact absurd h3 (h i hi)
theorem c_X3_monomial (hW : KF ad L) (h : MR hp th wi an li ki fi se tr cl si st nu wo fr) (hn : wi ≤ 9) (hl : li ≤ 10) (hLN : ∀ k, k < li → LN wi si st nu k (rs k)) (x y : Int32) : KM l yX3_monomial cX3_monomial 5 (some .int) (rmK 2 0 0) D dA ad sa L [.ref 54, .int x, .int y] hp
    (fun r hp' => (∃ t, MR hp' t wi an li ki fi se tr cl si st nu wo fr ∧ ((t = lackN li x ∧ ¬ t = 0 ∧ ∃ v, r = some (.int v)) ∨ (lackN li x = 0 ∧ ∃ k, k < li ∧ x = nI k ∧ ((t = 2 ∧ (¬ ∃ i, i < si k ∧ y = nI i) ∧ ∃ v, r = some (.int v)) ∨ (t = 0 ∧ ∃ i, i < si k ∧ y = nI i ∧ r = some (.int (nI (monAt (rs k) (2 ^ wi - 1) i)))))))) ∧ FM hp hp') := by
  refine KM.of rfl ok_X3_monomial (len_of rfl) hW.1.1 hW.1.2 ?_
  intro p e s m args below meth c A hC hN
  have h0 := hW.2 54 (by decide)
  have hlt := lackN_lt li x
  have hp2 := p2_lt hn
  have hp0 : 0 < 2 ^ wi := Nat.two_pow_pos wi
  refine g_run hC 3 rfl ?_
  refine g_callV hC hN [.int x] (c_X3_lack hW h hl x) rfl M_X3_110 h0 h.g100 rfl rfl (len_of rfl) (by decide) (by decide) ?_
  rintro r hp1 ⟨rfl, rfl⟩
  refine g_putI hC rfl F_X3_41 h0 h.g100 (len_of rfl) rfl rfl ?_
  have h2 := h.obj (th2 := lackN li x) (wi2 := wi) (an2 := an) (li2 := li)
  have f2 : FM hp1 (va_up hp1 54 (MObj (lackN li x) wi an li)) := FM.up (by decide) (by decide)
  have hmid : nI (2 ^ wi - 1) = cI 1 <<< (nI wi &&& 31) - nI 1 := by rw [shl_1 _ (by omega), pk_sub (by omega)]
  by_cases hz : lackN li x = 0
  · obtain ⟨k, hk, hx⟩ := lackN_0 hl hz
    rw [hz] at h2 f2
    rw [hz]
    have hLk := hLN k hk
    have hsz := hLk.1
    have hmk := monB (y := y) hsz
    refine g_run hC 2 rfl ?_
    refine g_get hC rfl F_X3_41 h0 h2.g100 rfl ?_
    refine g_ifne (tgt := 37) hC rfl (by decide) (fun h3 => absurd rfl h3) (fun _ => ?_)
    refine g_run hC 3 rfl ?_
    refine g_get hC rfl F_X3_26 h0 h2.g100 rfl ?_
    refine g_run hC 1 rfl ?_
    refine g_ild hC k rfl (hW.2 60 (by decide)) h2.g106 hx (by omega) (by decide) ?_
    refine g_run hC 2 rfl ?_
    refine g_callS hC hN [.int y, .int (nI 0), .int (nI (si k) - nI 1)] (c_X3_within hW _ y _ _) rfl M_X3_48 rfl (len_of rfl) (by decide) (by decide) ?_
    rintro r hp2 ⟨rfl, rfl⟩
    cases hb : (decide (nI 0 ≤ y) && decide (y ≤ nI (si k) - nI 1)) with
    | false =>
      refine g_ifne (tgt := 37) hC rfl (by decide) (fun h3 => absurd rfl h3) (fun _ => ?_)
      refine g_run hC 2 rfl ?_
      refine g_putI hC rfl F_X3_41 h0 h2.g100 (len_of rfl) rfl rfl ?_
      have h4 := h2.obj (th2 := 2) (wi2 := wi) (an2 := an) (li2 := li)
      refine g_run hC 4 rfl ?_
      refine g_get hC rfl F_X3_45 h0 h4.g100 rfl ?_
      refine g_run hC 3 rfl ?_
      refine g_top (nI (2 ^ wi - 1)) hmid.symm ?_
      refine g_run hC 2 rfl ?_
      refine g_iflt (tgt := 94) hC rfl (by decide) (fun h5 => absurd h5 (nI_pos (by omega))) (fun _ => ?_)
      refine g_run hC 1 rfl ?_
      refine g_get hC rfl F_X3_41 h0 h4.g100 rfl ?_
      refine g_ifne (tgt := 94) hC rfl (by decide) (fun _ => ?_) (fun h5 => absurd h5 (by decide))
      refine g_run hC 1 rfl ?_
      refine g_iret hC rfl rfl ⟨⟨2, h4, Or.inr ⟨rfl, k, hk, hx, Or.inl ⟨rfl, ?_, _, rfl⟩⟩⟩, f2.tr (FM.up (by decide) (by decide))⟩ (Nat.le_refl _) (Nat.le_refl _)
      intro z
      rw [hmk.mpr z] at hb
      cases hb
    | true =>
      obtain ⟨n0, hn0, hy⟩ := hmk.mp hb
      refine g_ifne (tgt := 37) hC rfl (by decide) (fun _ => ?_) (fun h3 => absurd h3 (by decide))
      refine g_run hC 1 rfl ?_
      refine g_get hC rfl F_X3_41 h0 h2.g100 rfl ?_
      refine g_putI hC rfl F_X3_41 h0 h2.g100 (len_of rfl) rfl rfl ?_
      have h4 := h2.obj (th2 := 0) (wi2 := wi) (an2 := an) (li2 := li)
      have f4 := f2.tr (FM.up (hp := va_up hp1 54 (MObj 0 wi an li)) (q := 54) (x := MObj 0 wi an li) (by decide) (by decide))
      refine g_run hC 4 rfl ?_
      refine g_get hC rfl F_X3_45 h0 h4.g100 rfl ?_
      refine g_run hC 3 rfl ?_
      refine g_top (nI (2 ^ wi - 1)) hmid.symm ?_
      refine g_run hC 1 rfl ?_
      generalize hH : va_up (va_up hp1 54 (MObj 0 wi an li)) 54 (MObj 0 wi an li) = hp4 at h4 f4
      generalize hRR : monAt (rs k) (2 ^ wi - 1) n0 = RR
      refine g_ind (σ := Nat × Nat) (fun x => x.1) (fun x => x.1 < 2 ^ wi ∧ x.2 < 2 ^ 31 ∧ monAt (rs k) x.1 x.2 = RR) (fun _ => hp4) (fun z => [(0, .ref 54), (1, .int x), (3, .int (nI z.2)), (4, .int (nI z.1))]) (2 ^ wi - 1, n0) ⟨by dsimp only; omega, by dsimp only; omega, hRR⟩ hH ⟨rfl, rfl, sI hy, rfl, trivial⟩ ?_
      rintro ⟨s0, n1⟩ ⟨h5, h6, h7⟩ ih
      dsimp only at h5 h6 h7 ih ⊢
      refine g_run hC 1 rfl ?_
      refine g_iflt (tgt := 94) hC rfl (by decide) (fun h8 => absurd h8 (nI_pos (by omega))) (fun _ => ?_)
      refine g_run hC 1 rfl ?_
      refine g_get hC rfl F_X3_41 h0 h4.g100 rfl ?_
      refine g_ifne (tgt := 94) hC rfl (by decide) (fun h8 => absurd rfl h8) (fun _ => ?_)
      refine g_run hC 2 rfl ?_
      refine g_top (nI k) hx ?_
      refine g_run hC 1 rfl ?_
      refine g_cutA (ι := Nat) (fun n2 => n2 < 2 ^ 31 ∧ (∀ s1, s0 = s1 + 1 → monAt (rs k) s1 n2 = RR) ∧ (s0 = 0 → RR = 0)) (fun _ => hp4) 88 (fun n2 => [(0, .ref 54), (1, .int x), (3, .int (nI n2)), (4, .int (nI s0))]) (fun _ => []) ?_ (fun nxt => ?_)
      · rintro n2 ⟨hn2, hm, hm0⟩
        refine g_run hC 2 rfl ?_
        by_cases hs : s0 = 0
        · subst hs
          refine g_run hC 1 rfl ?_
          refine g_iflt (tgt := 94) hC rfl (by decide) (fun _ => ?_) (fun h8 => absurd neg1_lt h8)
          refine g_run hC 1 rfl ?_
          refine g_iret hC rfl rfl ⟨⟨0, h4, Or.inr ⟨rfl, k, hk, hx, Or.inr ⟨rfl, n0, hn0, hy, ?_⟩⟩⟩, f4⟩ (Nat.le_refl _) (Nat.le_refl _)
          rw [hRR, hm0 rfl]; rfl
        · obtain ⟨s1, rfl⟩ : ∃ s1, s0 = s1 + 1 := ⟨s0 - 1, by omega⟩
          exact g_lvs (ih (s1, n2) ⟨by dsimp only; omega, hn2, hm s1 rfl⟩ (by dsimp only; omega)) ⟨rfl, rfl, rfl, sI (m1_pred (Nat.succ_pos _)), trivial⟩
      refine g_callV hC hN [.int (nI k), .int (nI s0)] (c_X3_find hW h4 k s0 (by omega) hsz (hLk.lt hn) (by omega)) rfl M_X3_83 h0 h4.g100 rfl rfl (len_of rfl) (by decide) (by decide) ?_
      rintro r hp5 ⟨⟨i, hi, h8, rfl⟩ | ⟨h8, rfl⟩, rfl⟩
      · have hnz := hLk.nz hi h8
        refine g_iflt (tgt := 88) hC rfl (by decide) (fun h9 => absurd h9 (nI_pos (by omega))) (fun _ => ?_)
        refine g_run hC 1 rfl ?_
        refine g_ifne (tgt := 85) hC rfl (by decide) (fun h9 => ?_) (fun h9 => ?_)
        · have hn1 : ¬ n1 = 0 := fun z => h9 (by rw [z]; rfl)
          refine g_run hC 1 rfl ?_
          refine g_lvs (nxt (n1 - 1) ⟨by omega, ?_, ?_⟩) ⟨rfl, rfl, sI (m1_pred (by omega)), rfl, trivial⟩
          · rintro s1 rfl
            simp only [monAt] at h7
            rw [if_neg hnz, if_neg hn1] at h7
            exact h7
          · rintro rfl
            rw [← h7]; rfl
        · have hn1 : n1 = 0 := (nI_z (by omega)).mp h9
          refine g_run hC 1 rfl ?_
          refine g_iret hC rfl rfl ⟨⟨0, h4, Or.inr ⟨rfl, k, hk, hx, Or.inr ⟨rfl, n0, hn0, hy, ?_⟩⟩⟩, f4⟩ (Nat.le_refl _) (Nat.le_refl _)
          rw [hRR, ← h7, hn1]
          cases s0 with
          | zero => rfl
          | succ s1 => simp only [monAt]; rw [if_neg hnz, if_pos trivial]
      · have hzr := hLk.zr (by omega) h8
        refine g_iflt (tgt := 88) hC rfl (by decide) (fun _ => ?_) (fun h9 => absurd neg1_lt h9)
        refine nxt n1 ⟨h6, ?_, ?_⟩
        · rintro s1 rfl
          simp only [monAt] at h7
          rw [if_pos hzr] at h7
          exact h7
        · rintro rfl
          rw [← h7]; rfl
  · refine g_run hC 2 rfl ?_
    refine g_get hC rfl F_X3_41 h0 h2.g100 rfl ?_
    refine g_ifne (tgt := 37) hC rfl (by decide) (fun _ => ?_) (fun h3 => absurd ((nI_z (by omega)).mp h3) hz)
    refine g_run hC 1 rfl ?_
    refine g_get hC rfl F_X3_41 h0 h2.g100 rfl ?_
    refine g_putI hC rfl F_X3_41 h0 h2.g100 (len_of rfl) rfl rfl ?_
    have h4 := h2.obj (th2 := lackN li x) (wi2 := wi) (an2 := an) (li2 := li)
    refine g_run hC 4 rfl ?_
    refine g_get hC rfl F_X3_45 h0 h4.g100 rfl ?_
    refine g_run hC 3 rfl ?_
    refine g_top (nI (2 ^ wi - 1)) hmid.symm ?_
    refine g_run hC 2 rfl ?_
    refine g_iflt (tgt := 94) hC rfl (by decide) (fun h5 => absurd h5 (nI_pos (by omega))) (fun _ => ?_)
    refine g_run hC 1 rfl ?_
    refine g_get hC rfl F_X3_41 h0 h4.g100 rfl ?_
    refine g_ifne (tgt := 94) hC rfl (by decide) (fun _ => ?_) (fun h5 => absurd ((nI_z (by omega)).mp h5) hz)
    refine g_run hC 1 rfl ?_
    exact g_iret hC rfl rfl ⟨⟨_, h4, Or.inl ⟨rfl, hz, _, rfl⟩⟩, f2.tr (FM.up (by decide) (by decide))⟩ (Nat.le_refl _) (Nat.le_refl _)
theorem c_X3_coefficient (hW : KF ad L) (h : MR hp th wi an li ki fi se tr cl si st nu wo fr) (hn : wi ≤ 9) (hl : li ≤ 10) (hLN : ∀ k, k < li → LN wi si st nu k (rs k)) (x y : Int32) : KM l yX3_coefficient cX3_coefficient 3 (some .long) (rmK 2 0 0) D dA ad sa L [.ref 54, .int x, .int y] hp
    (fun r hp' => (∃ t, MR hp' t wi an li ki fi se tr cl si st nu wo fr ∧ ((t = lackN li x ∧ ¬ t = 0 ∧ ∃ v, r = some (.long v)) ∨ (lackN li x = 0 ∧ ∃ k, k < li ∧ x = nI k ∧ ((t = 2 ∧ setB wi y = false ∧ ∃ v, r = some (.long v)) ∨ (t = 0 ∧ ∃ i, i < 2 ^ wi ∧ y = nI i ∧ r = some (.long (rs k i))))))) ∧ FM hp hp') := by
  refine KM.of rfl ok_X3_coefficient (len_of rfl) hW.1.1 hW.1.2 ?_
  intro p e s m args below meth c A hC hN
  have h0 := hW.2 54 (by decide)
  have hlt := lackN_lt li x
  have hp2 := p2_lt hn
  refine g_run hC 3 rfl ?_
  refine g_callV hC hN [.int x] (c_X3_lack hW h hl x) rfl M_X3_110 h0 h.g100 rfl rfl (len_of rfl) (by decide) (by decide) ?_
  rintro r hp1 ⟨rfl, rfl⟩
  refine g_putI hC rfl F_X3_41 h0 h.g100 (len_of rfl) rfl rfl ?_
  have h2 := h.obj (th2 := lackN li x) (wi2 := wi) (an2 := an) (li2 := li)
  have f2 : FM hp1 (va_up hp1 54 (MObj (lackN li x) wi an li)) := FM.up (by decide) (by decide)
  by_cases hz : lackN li x = 0
  · obtain ⟨k, hk, hx⟩ := lackN_0 hl hz
    rw [hz] at h2 f2
    rw [hz]
    refine g_run hC 2 rfl ?_
    refine g_get hC rfl F_X3_41 h0 h2.g100 rfl ?_
    refine g_ifne (tgt := 29) hC rfl (by decide) (fun h3 => absurd rfl h3) (fun _ => ?_)
    refine g_run hC 2 rfl ?_
    refine g_callV hC hN [.int y] (c_X3_isSet hW h2 hn y) rfl M_X3_63 h0 h2.g100 rfl rfl (len_of rfl) (by decide) (by decide) ?_
    rintro r hp2 ⟨rfl, rfl⟩
    cases hb : setB wi y with
    | false =>
      refine g_ifne (tgt := 29) hC rfl (by decide) (fun h3 => absurd rfl h3) (fun _ => ?_)
      refine g_run hC 2 rfl ?_
      refine g_putI hC rfl F_X3_41 h0 h2.g100 (len_of rfl) rfl rfl ?_
      have h4 := h2.obj (th2 := 2) (wi2 := wi) (an2 := an) (li2 := li)
      refine g_run hC 1 rfl ?_
      refine g_get hC rfl F_X3_41 h0 h4.g100 rfl ?_
      refine g_ifle (tgt := 47) hC rfl (by decide) (fun h5 => absurd h5 (by decide)) (fun _ => ?_)
      refine g_run hC 2 rfl ?_
      exact g_lret hC rfl rfl ⟨⟨2, h4, Or.inr ⟨rfl, k, hk, hx, Or.inl ⟨rfl, rfl, _, rfl⟩⟩⟩, f2.tr (FM.up (by decide) (by decide))⟩ (Nat.le_refl _) (Nat.le_refl _)
    | true =>
      obtain ⟨i, hi, hy⟩ := (setB_iff hn).mp hb
      refine g_ifne (tgt := 29) hC rfl (by decide) (fun _ => ?_) (fun h3 => absurd h3 (by decide))
      refine g_run hC 1 rfl ?_
      refine g_get hC rfl F_X3_41 h0 h2.g100 rfl ?_
      refine g_putI hC rfl F_X3_41 h0 h2.g100 (len_of rfl) rfl rfl ?_
      have h4 := h2.obj (th2 := 0) (wi2 := wi) (an2 := an) (li2 := li)
      refine g_run hC 1 rfl ?_
      refine g_get hC rfl F_X3_41 h0 h4.g100 rfl ?_
      refine g_ifle (tgt := 47) hC rfl (by decide) (fun _ => ?_) (fun h5 => absurd (by decide) h5)
      refine g_run hC 2 rfl ?_
      refine g_top (nI k) hx ?_
      refine g_run hC 1 rfl ?_
      refine g_top (nI i) hy ?_
      refine g_callV hC hN [.int (nI k), .int (nI i)] (c_X3_has hW h4 hn k i (rs k) (by omega) (hLN k hk) (by omega)) rfl M_X3_113 h0 h4.g100 rfl rfl (len_of rfl) (by decide) (by decide) ?_
      rintro r hp5 ⟨rfl, rfl⟩
      exact g_lret hC rfl rfl ⟨⟨0, h4, Or.inr ⟨rfl, k, hk, hx, Or.inr ⟨rfl, i, hi, hy, rfl⟩⟩⟩, f2.tr (FM.up (by decide) (by decide))⟩ (Nat.le_refl _) (Nat.le_refl _)
  · refine g_run hC 2 rfl ?_
    refine g_get hC rfl F_X3_41 h0 h2.g100 rfl ?_
    refine g_ifne (tgt := 29) hC rfl (by decide) (fun _ => ?_) (fun h3 => absurd ((nI_z (by omega)).mp h3) hz)
    refine g_run hC 1 rfl ?_
    refine g_get hC rfl F_X3_41 h0 h2.g100 rfl ?_
    refine g_putI hC rfl F_X3_41 h0 h2.g100 (len_of rfl) rfl rfl ?_
    have h4 := h2.obj (th2 := lackN li x) (wi2 := wi) (an2 := an) (li2 := li)
    refine g_run hC 1 rfl ?_
    refine g_get hC rfl F_X3_41 h0 h4.g100 rfl ?_
    refine g_ifle (tgt := 47) hC rfl (by decide) (fun h3 => ?_) (fun _ => ?_)
    · have := (nI_leI (a := lackN li x) (b := 0) (by omega) (by decide)).mp h3
      exact absurd (Nat.le_zero.mp this) hz
    · refine g_run hC 2 rfl ?_
      exact g_lret hC rfl rfl ⟨⟨_, h4, Or.inl ⟨rfl, hz, _, rfl⟩⟩, f2.tr (FM.up (by decide) (by decide))⟩ (Nat.le_refl _) (Nat.le_refl _)
end
