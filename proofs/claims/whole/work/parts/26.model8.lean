theorem sJo {x y : Int64} (h : x = y) : some (Value.long x) = some (Value.long y) := by rw [h]
section
variable {si st si2 st2 : Nat → Nat} {nu nu2 : Nat → Int64} {n k : Nat} {row : Nat → Int64}
theorem LN.cg (hL : LN n si st nu k row) (h1 : si2 k = si k) (h2 : ∀ j, j < 40 → st2 (40 * k + j) = st (40 * k + j)) (h3 : ∀ j, j < 40 → nu2 (40 * k + j) = nu (40 * k + j)) : LN n si2 st2 nu2 k row := by
  obtain ⟨a, b, c, d, e⟩ := hL
  refine ⟨by rw [h1]; exact a, by rw [h1]; exact b, ?_, ?_, ?_⟩
  · intro i hi
    rw [h1] at hi
    rw [h2 i (by omega), h3 i (by omega)]
    exact c i hi
  · intro s hs hr
    obtain ⟨i, hi, q⟩ := d s hs hr
    exact ⟨i, by rw [h1]; exact hi, by rw [h2 i (by omega)]; exact q⟩
  · intro i j hi hj q
    rw [h1] at hi hj
    rw [h2 i (by omega), h2 j (by omega)] at q
    exact e i j hi hj q
theorem LN.set {i0 s0 : Nat} {v : Int64} (hL : LN n si st nu k row) (hi0 : i0 < si k) (hs : st (40 * k + i0) = s0) (hs5 : s0 < 512) (hv : ¬ v = 0) : LN n si st (va_up nu (40 * k + i0) v) k (va_up row s0 v) := by
  have hnz := hL.nz hi0 hs
  obtain ⟨a, b, c, d, e⟩ := hL
  have hc := cnt_up (f := row) (v := v) hs5
  rw [if_neg hnz, if_neg hv] at hc
  refine ⟨a, by omega, ?_, ?_, e⟩
  · intro i hi
    by_cases h : i = i0
    · subst h
      rw [hs, va_up_self, va_up_self]
      exact ⟨by rw [← hs]; exact (c i hi).1, rfl, hv⟩
    · have h2 : ¬ st (40 * k + i) = s0 := fun z => h (e i i0 hi hi0 (z.trans hs.symm))
      rw [va_up_ne _ _ (show 40 * k + i ≠ 40 * k + i0 by omega), va_up_ne _ _ h2]
      exact c i hi
  · intro s hs2 hr
    by_cases h : s = s0
    · exact ⟨i0, hi0, hs.trans h.symm⟩
    · rw [va_up_ne _ _ h] at hr
      exact d s hs2 hr
theorem LN.del {i0 s0 : Nat} (hL : LN n si st nu k row) (hi0 : i0 < si k) (hs : st (40 * k + i0) = s0) (hs5 : s0 < 512) (h1 : si2 k = si k - 1) (h2 : ∀ j, j < si k - 1 → j ≠ i0 → st2 (40 * k + j) = st (40 * k + j) ∧ nu2 (40 * k + j) = nu (40 * k + j)) (h3 : i0 < si k - 1 → st2 (40 * k + i0) = st (40 * k + (si k - 1)) ∧ nu2 (40 * k + i0) = nu (40 * k + (si k - 1))) : LN n si2 st2 nu2 k (va_up row s0 0) := by
  have hnz := hL.nz hi0 hs
  obtain ⟨a, b, c, d, e⟩ := hL
  have hc := cnt_up (f := row) (v := 0) hs5
  rw [if_neg hnz, if_pos rfl] at hc
  have key : ∀ i, i < si k → i ≠ i0 → ¬ st (40 * k + i) = s0 := fun i hi h z => h (e i i0 hi hi0 (z.trans hs.symm))
  refine ⟨by omega, by omega, ?_, ?_, ?_⟩
  · intro i hi
    rw [h1] at hi
    by_cases h : i = i0
    · subst h
      obtain ⟨q1, q2⟩ := h3 hi
      have h4 := key (si k - 1) (by omega) (by omega)
      rw [q1, q2, va_up_ne _ _ h4]
      exact c (si k - 1) (by omega)
    · obtain ⟨q1, q2⟩ := h2 i hi h
      rw [q1, q2, va_up_ne _ _ (key i (by omega) h)]
      exact c i (by omega)
  · intro s hs2 hr
    by_cases h : s = s0
    · subst h; rw [va_up_self] at hr; exact absurd rfl hr
    · rw [va_up_ne _ _ h] at hr
      obtain ⟨i, hi, q⟩ := d s hs2 hr
      have hii : i ≠ i0 := fun z => h (by rw [← q, z, hs])
      by_cases hm : i = si k - 1
      · have h5 : i0 < si k - 1 := by omega
        exact ⟨i0, by rw [h1]; exact h5, by rw [(h3 h5).1, ← hm]; exact q⟩
      · exact ⟨i, by rw [h1]; omega, by rw [(h2 i (by omega) hii).1]; exact q⟩
  · intro i j hi hj q
    rw [h1] at hi hj
    by_cases hA : i = i0
    · by_cases hB : j = i0
      · rw [hA, hB]
      · subst hA
        rw [(h3 hi).1, (h2 j hj hB).1] at q
        have := e _ _ (by omega) (by omega) q
        omega
    · by_cases hB : j = i0
      · subst hB
        rw [(h3 hj).1, (h2 i hi hA).1] at q
        have := e _ _ (by omega) (by omega) q
        omega
      · rw [(h2 i hi hA).1, (h2 j hj hB).1] at q
        exact e i j (by omega) (by omega) q
theorem LN.app {s0 : Nat} {v : Int64} (hL : LN n si st nu k row) (hf : ∀ i, i < si k → ¬ st (40 * k + i) = s0) (hsn : s0 < 2 ^ n) (hs5 : s0 < 512) (hv : ¬ v = 0) (h40 : si k < 40) (h1 : si2 k = si k + 1) (h2 : ∀ j, j < si k → st2 (40 * k + j) = st (40 * k + j) ∧ nu2 (40 * k + j) = nu (40 * k + j)) (h3 : st2 (40 * k + si k) = s0 ∧ nu2 (40 * k + si k) = v) : LN n si2 st2 nu2 k (va_up row s0 v) := by
  have hzr := hL.zr hs5 hf
  obtain ⟨a, b, c, d, e⟩ := hL
  have hc := cnt_up (f := row) (v := v) hs5
  rw [if_pos hzr, if_neg hv] at hc
  refine ⟨by omega, by omega, ?_, ?_, ?_⟩
  · intro i hi
    rw [h1] at hi
    by_cases h : i = si k
    · subst h
      rw [h3.1, h3.2, va_up_self]
      exact ⟨hsn, rfl, hv⟩
    · rw [(h2 i (by omega)).1, (h2 i (by omega)).2, va_up_ne _ _ (hf i (by omega))]
      exact c i (by omega)
  · intro s hs2 hr
    by_cases h : s = s0
    · exact ⟨si k, by omega, h3.1.trans h.symm⟩
    · rw [va_up_ne _ _ h] at hr
      obtain ⟨i, hi, q⟩ := d s hs2 hr
      exact ⟨i, by omega, (h2 i hi).1.trans q⟩
  · intro i j hi hj q
    rw [h1] at hi hj
    by_cases hA : i = si k
    · by_cases hB : j = si k
      · rw [hA, hB]
      · subst hA
        rw [h3.1, (h2 j (by omega)).1] at q
        exact absurd q.symm (hf j (by omega))
    · by_cases hB : j = si k
      · subst hB
        rw [h3.1, (h2 i (by omega)).1] at q
        exact absurd q (hf i (by omega))
      · rw [(h2 i (by omega)).1, (h2 j (by omega)).1] at q
        exact e i j (by omega) (by omega) q
/-- only line k has changed -/
def OL (si st : Nat → Nat) (nu : Nat → Int64) (si2 st2 : Nat → Nat) (nu2 : Nat → Int64) (k : Nat) : Prop := ∀ q, q ≠ k → si2 q = si q ∧ (∀ j, j < 40 → st2 (40 * q + j) = st (40 * q + j)) ∧ (∀ j, j < 40 → nu2 (40 * q + j) = nu (40 * q + j))
theorem OL.ln {q : Nat} (h : OL si st nu si2 st2 nu2 k) (hq : q ≠ k) (hL : LN n si st nu q row) : LN n si2 st2 nu2 q row := hL.cg (h q hq).1 (h q hq).2.1 (h q hq).2.2
end
section
variable {l : Launch} {D : va_G} {dA ad sa : Nat → Nat} {L : List Nat} {hp : Nat → KE} {th wi an li inp : Nat} {ki fi se tr : Nat → Int32} {cl : Nat → Int64} {si st : Nat → Nat} {nu wo fr : Nat → Int64} {gt : Nat → GT} {rs : Nat → Nat → Int64}
theorem c_X3_spoil (hW : KF ad L) (h : MR hp th wi an li ki fi se tr cl si st nu wo fr) (hn : wi ≤ 9) (hl : li ≤ 10) (hLN : ∀ k, k < li → LN wi si st nu k (rs k)) (x y z : Int32) : KM l yX3_spoil cX3_spoil 7 (some .long) (rmK 2 0 0) D dA ad sa L [.ref 54, .int x, .int y, .int z] hp
    (fun r hp' => (∃ t si2 st2 nu2, MR hp' t wi an li ki fi se tr cl si2 st2 nu2 wo fr ∧ ((t = lackN li x ∧ ¬ t = 0 ∧ (∃ v, r = some (.long v)) ∧ si2 = si ∧ st2 = st ∧ nu2 = nu) ∨ (lackN li x = 0 ∧ ∃ k, k < li ∧ x = nI k ∧ ((t = 2 ∧ setB wi y = false ∧ (∃ v, r = some (.long v)) ∧ si2 = si ∧ st2 = st ∧ nu2 = nu) ∨ (∃ i, i < 2 ^ wi ∧ y = nI i ∧ ((t = 3 ∧ rs k i = 0 ∧ ¬ rs k i + z.toInt64 = 0 ∧ si k = 40 ∧ (∃ v, r = some (.long v)) ∧ si2 = si ∧ st2 = st ∧ nu2 = nu) ∨ (t = 0 ∧ ¬ (rs k i = 0 ∧ ¬ rs k i + z.toInt64 = 0 ∧ si k = 40) ∧ r = some (.long (rs k i + z.toInt64)) ∧ LN wi si2 st2 nu2 k (va_up (rs k) i (rs k i + z.toInt64)) ∧ OL si st nu si2 st2 nu2 k))))))) ∧ FM hp hp') := by
  refine KM.of rfl ok_X3_spoil (len_of rfl) hW.1.1 hW.1.2 ?_
  intro p e s m args below meth c A hC hN
  have h0 := hW.2 54 (by decide)
  have hlt := lackN_lt li x
  have hp2 := p2_lt hn
  refine g_run hC 3 rfl ?_
  refine g_callV hC hN [.int x] (c_X3_lack hW h hl x) rfl M_X3_110 h0 h.g100 rfl rfl (len_of rfl) (by decide) (by decide) ?_
  rintro r hp1 ⟨rfl, rfl⟩
  refine g_putI hC rfl F_X3_41 h0 h.g100 (len_of rfl) rfl rfl ?_
  have h2 := h.obj (th2 := lackN li x) (wi2 := wi) (an2 := an) (li2 := li)
  have f2 : FM hp1 (va_up hp1 54 (MObj (lackN li x) wi an li)) := FM.up (by decide) (by decide)
  by_cases hz : lackN li x = 0
  · obtain ⟨k, hk, rfl⟩ := lackN_0 hl hz
    rw [hz] at h2 f2
    rw [hz]
    refine g_run hC 2 rfl ?_
    refine g_get hC rfl F_X3_41 h0 h2.g100 rfl ?_
    refine g_ifne (tgt := 29) hC rfl (by decide) (fun h3 => absurd rfl h3) (fun _ => ?_)
    refine g_run hC 2 rfl ?_
    refine g_callV hC hN [.int y] (c_X3_isSet hW h2 hn y) rfl M_X3_63 h0 h2.g100 rfl rfl (len_of rfl) (by decide) (by decide) ?_
    rintro r hp2 ⟨rfl, rfl⟩
    cases hb : setB wi y with
    | false =>
      refine g_ifne (tgt := 29) hC rfl (by decide) (fun h3 => absurd rfl h3) (fun _ => ?_)
      refine g_run hC 2 rfl ?_
      refine g_putI hC rfl F_X3_41 h0 h2.g100 (len_of rfl) rfl rfl ?_
      have h4 := h2.obj (th2 := 2) (wi2 := wi) (an2 := an) (li2 := li)
      refine g_run hC 1 rfl ?_
      refine g_get hC rfl F_X3_41 h0 h4.g100 rfl ?_
      refine g_ifle (tgt := 45) hC rfl (by decide) (fun h5 => absurd h5 (by decide)) (fun _ => ?_)
      refine g_run hC 1 rfl ?_
      exact g_lret hC rfl rfl ⟨⟨2, si, st, nu, h4, Or.inr ⟨rfl, k, hk, rfl, Or.inl ⟨rfl, rfl, ⟨_, rfl⟩, rfl, rfl, rfl⟩⟩⟩, f2.tr (FM.up (by decide) (by decide))⟩ (Nat.le_refl _) (Nat.le_refl _)
    | true =>
      obtain ⟨i, hi, rfl⟩ := (setB_iff hn).mp hb
      have hi5 : i < 512 := by omega
      have hLk := hLN k hk
      have hsz := hLk.1
      refine g_ifne (tgt := 29) hC rfl (by decide) (fun _ => ?_) (fun h3 => absurd h3 (by decide))
      refine g_run hC 1 rfl ?_
      refine g_get hC rfl F_X3_41 h0 h2.g100 rfl ?_
      refine g_putI hC rfl F_X3_41 h0 h2.g100 (len_of rfl) rfl rfl ?_
      have h4 := h2.obj (th2 := 0) (wi2 := wi) (an2 := an) (li2 := li)
      have f4 := f2.tr (FM.up (hp := va_up hp1 54 (MObj 0 wi an li)) (q := 54) (x := MObj 0 wi an li) (by decide) (by decide))
      refine g_run hC 1 rfl ?_
      refine g_get hC rfl F_X3_41 h0 h4.g100 rfl ?_
      refine g_ifle (tgt := 45) hC rfl (by decide) (fun _ => ?_) (fun h5 => absurd (by decide) h5)
      refine g_run hC 3 rfl ?_
      refine g_callV hC hN [.int (nI k), .int (nI i)] (c_X3_has hW h4 hn k i (rs k) (by omega) hLk (by omega)) rfl M_X3_113 h0 h4.g100 rfl rfl (len_of rfl) (by decide) (by decide) ?_
      rintro r hp5 ⟨rfl, rfl⟩
      refine g_run hC 7 rfl ?_
      generalize hv : rs k i + z.toInt64 = v
      refine g_lvs (lv' := [(0, .ref 54), (1, .int (nI k)), (2, .int (nI i)), (4, .long v)]) ?_ ⟨rfl, rfl, rfl, sJ hv, trivial⟩
      refine g_callV hC hN [.int (nI k), .int (nI i)] (c_X3_find hW h4 k i (by omega) hsz (hLk.lt hn) (by omega)) rfl M_X3_83 h0 h4.g100 rfl rfl (len_of rfl) (by decide) (by decide) ?_
      have e40 : ∀ j, nI 40 * nI k + nI j = nI (40 * k + j) := fun j => by rw [pk_mul, nI_add]
      have hk10 : k < 10 := by omega
      rintro r hp6 ⟨⟨i0, hi0, h8, rfl⟩ | ⟨h8, rfl⟩, rfl⟩
      · have hnz := hLk.nz hi0 h8
        refine g_run hC 2 rfl ?_
        refine g_ifge (tgt := 129) hC rfl (by decide) (fun _ => ?_) (fun h9 => absurd (nI_pos' (by omega)) h9)
        refine g_run hC 1 rfl ?_
        refine g_iflt (tgt := 143) hC rfl (by decide) (fun h9 => absurd h9 (nI_pos (by omega))) (fun _ => ?_)
        refine g_run hC 1 rfl ?_
        refine g_get hC rfl F_X3_32 h0 h4.g100 rfl ?_
        refine g_run hC 2 rfl ?_
        refine g_lst hC (40 * k + i0) rfl (hW.2 62 (by decide)) h4.g108 rfl (by omega) (by decide) ?_
        have h5 := h4.s_nu (x9 := va_up nu (40 * k + i0) v)
        refine g_run hC 1 rfl ?_
        refine g_iflt (tgt := 215) hC rfl (by decide) (fun h9 => absurd h9 (nI_pos (by omega))) (fun _ => ?_)
        refine g_run hC 3 rfl ?_
        refine g_ifne (tgt := 215) hC rfl (by decide) (fun h9 => ?_) (fun h9 => ?_)
        · have hv0 : ¬ v = 0 := fun q => h9 ((cmpz _).mpr q)
          refine g_run hC 1 rfl ?_
          refine g_lret hC rfl rfl ⟨⟨0, si, st, _, h5, Or.inr ⟨rfl, k, hk, rfl, Or.inr ⟨i, hi, rfl, Or.inr ⟨rfl, fun q => hnz q.1, sJo hv.symm, by rw [hv]; exact hLk.set hi0 h8 hi5 hv0, fun q hq => ⟨rfl, fun _ _ => rfl, fun j hj => va_up_ne _ _ (by omega)⟩⟩⟩⟩⟩, f4.tr (FM.up (by decide) (by decide))⟩ (Nat.le_refl _) (Nat.le_refl _)
        · have hv0 : v = 0 := (cmpz _).mp h9
          refine g_run hC 1 rfl ?_
          refine g_get hC rfl F_X3_26 h0 h5.g100 rfl ?_
          refine g_run hC 2 rfl ?_
          refine g_get hC rfl F_X3_26 h0 h5.g100 rfl ?_
          refine g_run hC 1 rfl ?_
          refine g_ild hC k rfl (hW.2 60 (by decide)) h5.g106 rfl hk10 (by decide) ?_
          refine g_run hC 2 rfl ?_
          refine g_top (nI (si k - 1)) (pk_sub (a := si k) (b := 1) (by omega)) ?_
          refine g_ist hC k rfl (hW.2 60 (by decide)) h5.g106 rfl hk10 (by decide) ?_
          rw [upI]
          have h6 := h5.s_si (x9 := va_up si k (si k - 1))
          refine g_run hC 1 rfl ?_
          refine g_get hC rfl F_X3_29 h0 h6.g100 rfl ?_
          refine g_run hC 2 rfl ?_
          refine g_get hC rfl F_X3_29 h0 h6.g100 rfl ?_
          refine g_run hC 4 rfl ?_
          refine g_get hC rfl F_X3_26 h0 h6.g100 rfl ?_
          refine g_run hC 1 rfl ?_
          refine g_ild hC k rfl (hW.2 60 (by decide)) h6.g106 rfl hk10 (by decide) ?_
          rw [va_up_self]
          refine g_run hC 1 rfl ?_
          refine g_ild hC (40 * k + (si k - 1)) rfl (hW.2 61 (by decide)) h6.g107 (e40 _) (by omega) (by decide) ?_
          refine g_ist hC (40 * k + i0) rfl (hW.2 61 (by decide)) h6.g107 rfl (by omega) (by decide) ?_
          rw [upI]
          have h7 := h6.s_st (x9 := va_up st (40 * k + i0) (st (40 * k + (si k - 1))))
          refine g_run hC 1 rfl ?_
          refine g_get hC rfl F_X3_32 h0 h7.g100 rfl ?_
          refine g_run hC 2 rfl ?_
          refine g_get hC rfl F_X3_32 h0 h7.g100 rfl ?_
          refine g_run hC 4 rfl ?_
          refine g_get hC rfl F_X3_26 h0 h7.g100 rfl ?_
          refine g_run hC 1 rfl ?_
          refine g_ild hC k rfl (hW.2 60 (by decide)) h7.g106 rfl hk10 (by decide) ?_
          rw [va_up_self]
          refine g_run hC 1 rfl ?_
          refine g_lld hC (40 * k + (si k - 1)) rfl (hW.2 62 (by decide)) h7.g108 (e40 _) (by omega) (by decide) ?_
          refine g_lst hC (40 * k + i0) rfl (hW.2 62 (by decide)) h7.g108 rfl (by omega) (by decide) ?_
          have h8n := h7.s_nu (x9 := va_up (va_up nu (40 * k + i0) v) (40 * k + i0) (va_up nu (40 * k + i0) v (40 * k + (si k - 1))))
          refine g_run hC 1 rfl ?_
          refine g_lret hC rfl rfl ⟨⟨0, _, _, _, h8n, Or.inr ⟨rfl, k, hk, rfl, Or.inr ⟨i, hi, rfl, Or.inr ⟨rfl, fun q => hnz q.1, sJo hv.symm, ?_, ?_⟩⟩⟩⟩, f4.tr ((((FM.up (by decide) (by decide)).tr (FM.up (by decide) (by decide))).tr (FM.up (by decide) (by decide))).tr (FM.up (by decide) (by decide)))⟩ (Nat.le_refl _) (Nat.le_refl _)
          · rw [hv, hv0]
            refine hLk.del hi0 h8 hi5 (va_up_self _ _ _) ?_ ?_
            · intro j hj hji
              refine ⟨va_up_ne _ _ (by omega), ?_⟩
              rw [va_up_ne _ _ (by omega), va_up_ne _ _ (by omega)]
            · intro hj
              refine ⟨va_up_self _ _ _, ?_⟩
              rw [va_up_self, va_up_ne _ _ (by omega)]
          · intro q hq
            refine ⟨va_up_ne _ _ hq, fun j hj => va_up_ne _ _ (by omega), fun j hj => ?_⟩
            rw [va_up_ne _ _ (by omega), va_up_ne _ _ (by omega)]
      · have hzr := hLk.zr hi5 h8
        refine g_run hC 2 rfl ?_
        refine g_ifge (tgt := 129) hC rfl (by decide) (fun h9 => absurd h9 (by decide)) (fun _ => ?_)
        refine g_run hC 3 rfl ?_
        refine g_ifeq (tgt := 129) hC rfl (by decide) (fun h9 => ?_) (fun h9 => ?_)
        · have hv0 : v = 0 := (cmpz _).mp h9
          refine g_run hC 1 rfl ?_
          refine g_iflt (tgt := 143) hC rfl (by decide) (fun _ => ?_) (fun h9 => absurd neg1_lt h9)
          refine g_run hC 1 rfl ?_
          refine g_iflt (tgt := 215) hC rfl (by decide) (fun _ => ?_) (fun h9 => absurd neg1_lt h9)
          refine g_run hC 1 rfl ?_
          refine g_lret hC rfl rfl ⟨⟨0, si, st, nu, h4, Or.inr ⟨rfl, k, hk, rfl, Or.inr ⟨i, hi, rfl, Or.inr ⟨rfl, fun q => q.2.1 (hv.trans hv0), sJo hv.symm, ?_, fun q hq => ⟨rfl, fun _ _ => rfl, fun _ _ => rfl⟩⟩⟩⟩⟩, f4⟩ (Nat.le_refl _) (Nat.le_refl _)
          rw [hv, show va_up (rs k) i v = rs k from by
            funext j
            by_cases hj : j = i
            · subst hj; rw [va_up_self, hv0, hzr]
            · rw [va_up_ne _ _ hj]]
          exact hLk
        · have hv0 : ¬ v = 0 := fun q => h9 ((cmpz _).mpr q)
          refine g_run hC 1 rfl ?_
          refine g_get hC rfl F_X3_26 h0 h4.g100 rfl ?_
          refine g_run hC 1 rfl ?_
          refine g_ild hC k rfl (hW.2 60 (by decide)) h4.g106 rfl hk10 (by decide) ?_
          refine g_run hC 1 rfl ?_
          refine g_icne (tgt := 94) hC rfl (by decide) (fun h10 => ?_) (fun h10 => ?_)
          · have hne : ¬ si k = 40 := fun q => h10 (by show nI (si k) = _; rw [q]; rfl)
            refine g_run hC 4 rfl ?_
            refine g_get hC rfl F_X3_26 h0 h4.g100 rfl ?_
            refine g_run hC 1 rfl ?_
            refine g_ild hC k rfl (hW.2 60 (by decide)) h4.g106 rfl hk10 (by decide) ?_
            refine g_run hC 3 rfl ?_
            refine g_lvs (lv' := [(0, .ref 54), (1, .int (nI k)), (2, .int (nI i)), (4, .long v), (6, .int (nI (40 * k + si k)))]) ?_ ⟨rfl, rfl, rfl, rfl, sI (e40 _), trivial⟩
            refine g_get hC rfl F_X3_26 h0 h4.g100 rfl ?_
            refine g_run hC 2 rfl ?_
            refine g_get hC rfl F_X3_26 h0 h4.g100 rfl ?_
            refine g_run hC 1 rfl ?_
            refine g_ild hC k rfl (hW.2 60 (by decide)) h4.g106 rfl hk10 (by decide) ?_
            refine g_run hC 2 rfl ?_
            refine g_top (nI (si k + 1)) (nI_s _) ?_
            refine g_ist hC k rfl (hW.2 60 (by decide)) h4.g106 rfl hk10 (by decide) ?_
            rw [upI]
            have h5 := h4.s_si (x9 := va_up si k (si k + 1))
            refine g_run hC 1 rfl ?_
            refine g_get hC rfl F_X3_29 h0 h5.g100 rfl ?_
            refine g_run hC 2 rfl ?_
            refine g_ist hC (40 * k + si k) rfl (hW.2 61 (by decide)) h5.g107 rfl (by omega) (by decide) ?_
            rw [upI]
            have h6 := h5.s_st (x9 := va_up st (40 * k + si k) i)
            refine g_run hC 1 rfl ?_
            refine g_iflt (tgt := 143) hC rfl (by decide) (fun h9 => absurd h9 (nI_pos (by omega))) (fun _ => ?_)
            refine g_run hC 1 rfl ?_
            refine g_get hC rfl F_X3_32 h0 h6.g100 rfl ?_
            refine g_run hC 2 rfl ?_
            refine g_lst hC (40 * k + si k) rfl (hW.2 62 (by decide)) h6.g108 rfl (by omega) (by decide) ?_
            have h7 := h6.s_nu (x9 := va_up nu (40 * k + si k) v)
            refine g_run hC 1 rfl ?_
            refine g_iflt (tgt := 215) hC rfl (by decide) (fun h9 => absurd h9 (nI_pos (by omega))) (fun _ => ?_)
            refine g_run hC 3 rfl ?_
            refine g_ifne (tgt := 215) hC rfl (by decide) (fun _ => ?_) (fun h11 => absurd ((cmpz _).mp h11) hv0)
            refine g_run hC 1 rfl ?_
            refine g_lret hC rfl rfl ⟨⟨0, _, _, _, h7, Or.inr ⟨rfl, k, hk, rfl, Or.inr ⟨i, hi, rfl, Or.inr ⟨rfl, fun q => hne q.2.2, sJo hv.symm, ?_, ?_⟩⟩⟩⟩, f4.tr (((FM.up (by decide) (by decide)).tr (FM.up (by decide) (by decide))).tr (FM.up (by decide) (by decide)))⟩ (Nat.le_refl _) (Nat.le_refl _)
            · rw [hv]
              exact hLk.app h8 hi hi5 hv0 (by omega) (va_up_self _ _ _) (fun j hj => ⟨va_up_ne _ _ (by omega), va_up_ne _ _ (by omega)⟩) ⟨va_up_self _ _ _, va_up_self _ _ _⟩
            · exact fun q hq => ⟨va_up_ne _ _ hq, fun j hj => va_up_ne _ _ (by omega), fun j hj => va_up_ne _ _ (by omega)⟩
          · have h40 : si k = 40 := (nI_eq (b := 40) (by omega) (by decide)).mp h10
            refine g_run hC 2 rfl ?_
            refine g_putI hC rfl F_X3_41 h0 h4.g100 (len_of rfl) rfl rfl ?_
            have h5 := h4.obj (th2 := 3) (wi2 := wi) (an2 := an) (li2 := li)
            refine g_run hC 1 rfl ?_
            exact g_lret hC rfl rfl ⟨⟨3, si, st, nu, h5, Or.inr ⟨rfl, k, hk, rfl, Or.inr ⟨i, hi, rfl, Or.inl ⟨rfl, hzr, fun z9 => hv0 (hv.symm.trans z9), h40, ⟨_, rfl⟩, rfl, rfl, rfl⟩⟩⟩⟩, f4.tr (FM.up (by decide) (by decide))⟩ (Nat.le_refl _) (Nat.le_refl _)
  · refine g_run hC 2 rfl ?_
    refine g_get hC rfl F_X3_41 h0 h2.g100 rfl ?_
    refine g_ifne (tgt := 29) hC rfl (by decide) (fun _ => ?_) (fun h3 => absurd ((nI_z (by omega)).mp h3) hz)
    refine g_run hC 1 rfl ?_
    refine g_get hC rfl F_X3_41 h0 h2.g100 rfl ?_
    refine g_putI hC rfl F_X3_41 h0 h2.g100 (len_of rfl) rfl rfl ?_
    have h4 := h2.obj (th2 := lackN li x) (wi2 := wi) (an2 := an) (li2 := li)
    refine g_run hC 1 rfl ?_
    refine g_get hC rfl F_X3_41 h0 h4.g100 rfl ?_
    refine g_ifle (tgt := 45) hC rfl (by decide) (fun h3 => ?_) (fun _ => ?_)
    · have := (nI_leI (a := lackN li x) (b := 0) (by omega) (by decide)).mp h3
      exact absurd (Nat.le_zero.mp this) hz
    · refine g_run hC 1 rfl ?_
      exact g_lret hC rfl rfl ⟨⟨_, si, st, nu, h4, Or.inl ⟨rfl, hz, ⟨_, rfl⟩, rfl, rfl, rfl⟩⟩, f2.tr (FM.up (by decide) (by decide))⟩ (Nat.le_refl _) (Nat.le_refl _)
end
