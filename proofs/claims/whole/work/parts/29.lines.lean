/-! a sparse line is the row it holds -/
def rwN (st : Nat → Nat) (nu : Nat → Int64) (b : Nat) : Nat → Nat → Int64
  | 0 => fun _ => 0
  | m + 1 => inc (rwN st nu b m) (st (b + m)) (nu (b + m))
section
variable {st si : Nat → Nat} {nu : Nat → Int64} {b : Nat}
theorem rwN_off {s : Nat} : ∀ {m : Nat}, (∀ j, j < m → ¬ st (b + j) = s) → rwN st nu b m s = 0
  | 0, _ => rfl
  | m + 1, h => (va_up_ne _ _ (fun z => h m (Nat.lt_succ_self m) z.symm)).trans (rwN_off (fun j hj => h j (by omega)))
theorem rwN_on : ∀ {m : Nat}, (∀ i j, i < m → j < m → st (b + i) = st (b + j) → i = j) → ∀ {j : Nat}, j < m → rwN st nu b m (st (b + j)) = nu (b + j)
  | 0, _, j, hj => absurd hj (Nat.not_lt_zero j)
  | m + 1, h, j, hj => by
    by_cases e : j = m
    · subst e
      have h0 : rwN st nu b j (st (b + j)) = 0 := rwN_off (fun i hi z => by
        have := h i j (by omega) (by omega) z
        omega)
      show inc (rwN st nu b j) (st (b + j)) (nu (b + j)) (st (b + j)) = _
      unfold inc
      rw [va_up_self, h0, Int64.zero_add]
    · have h1 : st (b + j) ≠ st (b + m) := fun z => e (h j m (by omega) (by omega) z)
      show inc (rwN st nu b m) (st (b + m)) (nu (b + m)) (st (b + j)) = _
      unfold inc
      rw [va_up_ne _ _ h1]
      exact rwN_on (fun i j hi hj => h i j (by omega) (by omega)) (by omega)
theorem rwN_vs {p : Nat} : ∀ {m : Nat}, (∀ j, j < m → st (b + j) < 512) → vsN (rwN st nu b m) p 512 = spN st nu b p m
  | 0, _ => vsN_zero
  | m + 1, h => by
    have ih := rwN_vs (p := p) (m := m) (fun j hj => h j (by omega))
    have h1 : vsN (rwN st nu b (m + 1)) p 512 = vsN (rwN st nu b m) p 512 + (if st (b + m) &&& p = st (b + m) then nu (b + m) else 0) := vs_inc (h m (by omega))
    rw [h1, ih]
    simp only [spN]
    by_cases q : st (b + m) &&& p = st (b + m)
    · rw [if_pos q, if_pos q]
    · rw [if_neg q, if_neg q, Int64.add_zero]
theorem LN_sp {n k p : Nat} {row : Nat → Int64} (hn : n ≤ 9) (hL : LN n si st nu k row) : spN st nu (40 * k) p (si k) = vsN row p 512 := by
  rw [← rwN_vs (hL.lt hn)]
  refine vsN_congr (fun s hs => ?_)
  by_cases h : ∃ i, i < si k ∧ st (40 * k + i) = s
  · obtain ⟨i, hi, rfl⟩ := h
    rw [rwN_on hL.2.2.2.2 hi]
    exact (hL.2.2.1 i hi).2.1
  · have h2 : ∀ i, i < si k → ¬ st (40 * k + i) = s := fun i hi z => h ⟨i, hi, z⟩
    rw [rwN_off h2, hL.zr hs h2]
/-! keeping a row -/
variable {wo : Nat → Int64}
theorem stK_off {q : Nat} : ∀ {i : Nat}, (q < b ∨ b + cntN wo i ≤ q) → stK st wo b i q = st q ∧ nuK nu wo b i q = nu q
  | 0, _ => ⟨rfl, rfl⟩
  | i + 1, h => by
    simp only [cntN] at h
    simp only [stK, nuK]
    by_cases h0 : wo i = 0
    · rw [if_pos h0] at h
      rw [if_pos h0, if_pos h0]
      exact stK_off h
    · rw [if_neg h0] at h
      rw [if_neg h0, if_neg h0, va_up_ne _ _ (by omega), va_up_ne _ _ (by omega)]
      exact stK_off (by omega)
theorem stK_in : ∀ {i j : Nat}, j < cntN wo i → stK st wo b i (b + j) < i ∧ nuK nu wo b i (b + j) = wo (stK st wo b i (b + j)) ∧ ¬ wo (stK st wo b i (b + j)) = 0
  | 0, j, h => absurd h (Nat.not_lt_zero j)
  | i + 1, j, h => by
    simp only [cntN] at h
    simp only [stK, nuK]
    by_cases h0 : wo i = 0
    · rw [if_pos h0] at h
      rw [if_pos h0, if_pos h0]
      obtain ⟨a, c, d⟩ := stK_in (i := i) (j := j) h
      exact ⟨by omega, c, d⟩
    · rw [if_neg h0] at h
      rw [if_neg h0, if_neg h0]
      by_cases e : j = cntN wo i
      · subst e
        rw [va_up_self, va_up_self]
        exact ⟨Nat.lt_succ_self i, rfl, h0⟩
      · rw [va_up_ne _ _ (by omega), va_up_ne _ _ (by omega)]
        obtain ⟨a, c, d⟩ := stK_in (i := i) (j := j) (by omega)
        exact ⟨by omega, c, d⟩
theorem stK_has : ∀ {i s : Nat}, s < i → ¬ wo s = 0 → ∃ j, j < cntN wo i ∧ stK st wo b i (b + j) = s
  | 0, s, h, _ => absurd h (Nat.not_lt_zero s)
  | i + 1, s, h, hs => by
    simp only [cntN, stK]
    by_cases h0 : wo i = 0
    · have hne : s ≠ i := fun z => hs (by rw [z]; exact h0)
      obtain ⟨j, hj, q⟩ := stK_has (i := i) (s := s) (by omega) hs
      refine ⟨j, by omega, ?_⟩
      rw [if_pos h0]
      exact q
    · by_cases e : s = i
      · subst e
        refine ⟨cntN wo s, by rw [if_neg h0]; omega, ?_⟩
        rw [if_neg h0, va_up_self]
      · obtain ⟨j, hj, q⟩ := stK_has (i := i) (s := s) (by omega) hs
        refine ⟨j, by omega, ?_⟩
        rw [if_neg h0, va_up_ne _ _ (by omega)]
        exact q
theorem stK_inj : ∀ {i j k : Nat}, j < cntN wo i → k < cntN wo i → stK st wo b i (b + j) = stK st wo b i (b + k) → j = k
  | 0, j, k, h, _, _ => absurd h (Nat.not_lt_zero j)
  | i + 1, j, k, h, h', q => by
    simp only [cntN] at h h'
    simp only [stK] at q
    by_cases h0 : wo i = 0
    · rw [if_pos h0] at h h' q
      exact stK_inj h h' q
    · rw [if_neg h0] at h h' q
      by_cases e : j = cntN wo i
      · by_cases e2 : k = cntN wo i
        · rw [e, e2]
        · subst e
          rw [va_up_self, va_up_ne _ _ (by omega)] at q
          have := (stK_in (st := st) (nu := fun _ => 0) (b := b) (wo := wo) (i := i) (j := k) (by omega)).1
          omega
      · by_cases e2 : k = cntN wo i
        · subst e2
          rw [va_up_self, va_up_ne _ _ (by omega)] at q
          have := (stK_in (st := st) (nu := fun _ => 0) (b := b) (wo := wo) (i := i) (j := j) (by omega)).1
          omega
        · rw [va_up_ne _ _ (by omega), va_up_ne _ _ (by omega)] at q
          exact stK_inj (by omega) (by omega) q
theorem LN_keep {n k : Nat} {E : Nat → Int64} (hn : n ≤ 9) (hE : supp E n) (hw : ∀ s, s < 2 ^ n → wo s = E s) (hc : cnt E ≤ 40) : LN n (va_up si k (cntN wo (2 ^ n))) (stK st wo (40 * k) (2 ^ n)) (nuK nu wo (40 * k) (2 ^ n)) k E := by
  have h1 : cntN wo (2 ^ n) = cnt E := (cntN_congr hw).trans (supp_cnt hn hE).symm
  refine ⟨by rw [va_up_self, h1]; exact hc, by rw [va_up_self, h1], ?_, ?_, ?_⟩
  · intro i hi
    rw [va_up_self] at hi
    obtain ⟨a, c, d⟩ := stK_in (st := st) (nu := nu) (b := 40 * k) hi
    refine ⟨a, ?_, ?_⟩
    · rw [c, hw _ a]
    · rw [← hw _ a]; exact d
  · intro s hs hr
    have h2 : s < 2 ^ n := by
      rcases Nat.lt_or_ge s (2 ^ n) with q | q
      · exact q
      · exact absurd (hE s q) hr
    obtain ⟨j, hj, q⟩ := stK_has (st := st) (wo := wo) (b := 40 * k) h2 (by rw [hw s h2]; exact hr)
    exact ⟨j, by rw [va_up_self]; exact hj, q⟩
  · intro i j hi hj q
    rw [va_up_self] at hi hj
    exact stK_inj hi hj q
theorem OL_keep {n k : Nat} (hc : cntN wo (2 ^ n) ≤ 40) : OL si st nu (va_up si k (cntN wo (2 ^ n))) (stK st wo (40 * k) (2 ^ n)) (nuK nu wo (40 * k) (2 ^ n)) k := by
  intro q hq
  refine ⟨va_up_ne _ _ hq, fun j hj => (stK_off (nu := nu) ?_).1, fun j hj => (stK_off (st := st) ?_).2⟩ <;> omega
theorem cntN_mono {i j : Nat} (h : i ≤ j) : cntN wo i ≤ cntN wo j := by
  induction j with
  | zero => rw [Nat.le_zero.mp h]; exact Nat.le_refl _
  | succ j ih =>
    by_cases e : i = j + 1
    · rw [e]; exact Nat.le_refl _
    · have := ih (by omega)
      simp only [cntN]
      omega
end
/-! the lines of a proof -/
def rwsK (inp n : Nat) (gt : Nat → GT) (cl : Nat → Int64) : Nat → Nat → Int64
  | 0 => cl
  | k + 1 => elimC (rwsK inp n gt cl k) (2 ^ (gwN inp n (k + 1) - 1)) (gt (gwN inp n (k + 1) - 1)).2.2.2.2.1 (gt (gwN inp n (k + 1) - 1)).2.2.2.2.2
def rgK (inp n : Nat) (gt : Nat → GT) (pr : Nat → Nat → Int64) (j : Nat) : Bool := eqR (pr j) (elimC (pr (j - 1)) (2 ^ (gwN inp n j - 1)) (gt (gwN inp n j - 1)).2.2.2.2.1 (gt (gwN inp n j - 1)).2.2.2.2.2)
def rgA (inp n : Nat) (gt : Nat → GT) (cl : Nat → Int64) (pr : Nat → Nat → Int64) (j : Nat) : Bool := if j = 0 then eqR (pr 0) cl else rgK inp n gt pr j
section
variable {inp n : Nat} {gt : Nat → GT} {cl : Nat → Int64}
theorem gw_ok : ∀ {w k : Nat}, 0 < k → k ≤ ngN inp w → ∃ v, v < w ∧ inp &&& 2 ^ v = 0 ∧ gwN inp w k = v + 1
  | 0, k, h, h2 => by
    simp only [ngN] at h2
    omega
  | w + 1, k, h, h2 => by
    simp only [ngN] at h2
    simp only [gwN]
    by_cases hg : inp &&& 2 ^ w = 0
    · rw [if_pos hg] at h2
      rw [if_pos hg]
      by_cases hk : k - 1 = 0
      · rw [if_pos hk]
        exact ⟨w, Nat.lt_succ_self w, hg, rfl⟩
      · rw [if_neg hk]
        obtain ⟨v, a, c, d⟩ := gw_ok (w := w) (k := k - 1) (by omega) (by omega)
        exact ⟨v, by omega, c, d⟩
    · rw [if_neg hg] at h2
      rw [if_neg hg, if_neg (by omega)]
      obtain ⟨v, a, c, d⟩ := gw_ok (w := w) (k := k) h h2
      exact ⟨v, by omega, c, d⟩
theorem gw_g1 {w : Nat} (hg : inp &&& 2 ^ w = 0) : gwN inp (w + 1) 1 = w + 1 := by
  simp only [gwN]
  rw [if_pos hg, if_pos rfl]
theorem gw_gs {w j : Nat} (hg : inp &&& 2 ^ w = 0) (hj : 0 < j) : gwN inp (w + 1) (1 + j) = gwN inp w j := by
  simp only [gwN]
  rw [if_pos hg, if_neg (by omega), show 1 + j - 1 = j by omega]
theorem gw_n {w j : Nat} (hg : ¬ inp &&& 2 ^ w = 0) (hj : 0 < j) : gwN inp (w + 1) j = gwN inp w j := by
  simp only [gwN]
  rw [if_neg hg, if_neg (by omega)]
theorem prv_spec : ∀ {w last : Nat} {pr : Nat → Nat → Int64}, (∀ j, 0 < j → gwN inp n (last + j) = gwN inp w j) → (∀ j, j ≤ last → pr j = rwsK inp n gt cl j) → ∀ {b : Bool} {lst : Nat} {pr2 : Nat → Nat → Int64}, prvN inp gt w last pr = (b, lst, pr2) → (b = true → lst = last + ngN inp w ∧ (∀ j, j ≤ lst → pr2 j = rwsK inp n gt cl j) ∧ (∀ j, last < j → j ≤ lst → cnt (rwsK inp n gt cl j) ≤ 40)) ∧ (b = false → ∃ j, last < j ∧ j ≤ last + ngN inp w ∧ 40 < cnt (rwsK inp n gt cl j))
  | 0, last, pr, hg, hp, b, lst, pr2, e => by
    simp only [prvN, Prod.mk.injEq] at e
    obtain ⟨rfl, rfl, rfl⟩ := e
    exact ⟨fun _ => ⟨rfl, hp, fun j h1 h2 => by omega⟩, fun z => by cases z⟩
  | w + 1, last, pr, hg, hp, b, lst, pr2, e => by
    simp only [prvN] at e
    simp only [ngN]
    by_cases hgt : inp &&& 2 ^ w = 0
    · rw [if_pos hgt] at e
      rw [if_pos hgt]
      have e1 : gwN inp n (last + 1) = w + 1 := (hg 1 (by decide)).trans (gw_g1 hgt)
      have er : rwsK inp n gt cl (last + 1) = elimC (pr last) (2 ^ w) (gt w).2.2.2.2.1 (gt w).2.2.2.2.2 := by
        simp only [rwsK]
        rw [e1, Nat.add_sub_cancel, hp last (Nat.le_refl _)]
      rw [← er] at e
      by_cases hc : cnt (rwsK inp n gt cl (last + 1)) ≤ 40
      · rw [if_pos hc] at e
        have hg2 : ∀ j, 0 < j → gwN inp n (last + 1 + j) = gwN inp w j := fun j hj => by
          rw [Nat.add_assoc, hg (1 + j) (by omega), gw_gs hgt hj]
        have hp2 : ∀ j, j ≤ last + 1 → va_up pr (last + 1) (rwsK inp n gt cl (last + 1)) j = rwsK inp n gt cl j := fun j hj => by
          by_cases ej : j = last + 1
          · rw [ej, va_up_self]
          · rw [va_up_ne _ _ ej, hp j (by omega)]
        obtain ⟨a, c⟩ := prv_spec hg2 hp2 e
        refine ⟨fun hb => ?_, fun hb => ?_⟩
        · obtain ⟨a1, a2, a3⟩ := a hb
          refine ⟨by omega, a2, fun j h1 h2 => ?_⟩
          by_cases ej : j = last + 1
          · rw [ej]; exact hc
          · exact a3 j (by omega) h2
        · obtain ⟨j, c1, c2, c3⟩ := c hb
          exact ⟨j, by omega, by omega, c3⟩
      · rw [if_neg hc, Prod.mk.injEq] at e
        obtain ⟨rfl, -⟩ := e
        exact ⟨fun z => (by cases z), fun _ => ⟨last + 1, by omega, by omega, by omega⟩⟩
    · rw [if_neg hgt] at e
      rw [if_neg hgt]
      exact prv_spec (fun j hj => (hg j hj).trans (gw_n hgt hj)) hp e
theorem chk_spec {pr : Nat → Nat → Int64} : ∀ {w line : Nat}, (∀ j, 0 < j → gwN inp n (line + j) = gwN inp w j) → (chkN inp gt pr w line = none → ∀ j, line < j → j ≤ line + ngN inp w → rgK inp n gt pr j = true) ∧ (∀ k, chkN inp gt pr w line = some k → line < k ∧ k ≤ line + ngN inp w ∧ rgK inp n gt pr k = false ∧ ∀ j, line < j → j < k → rgK inp n gt pr j = true)
  | 0, line, hg => ⟨fun _ j h1 h2 => by simp only [ngN] at h2; omega, fun k h => by cases h⟩
  | w + 1, line, hg => by
    simp only [chkN, ngN]
    by_cases hgt : inp &&& 2 ^ w = 0
    · rw [if_pos hgt, if_pos hgt]
      have e1 : gwN inp n (line + 1) = w + 1 := (hg 1 (by decide)).trans (gw_g1 hgt)
      have er : rgK inp n gt pr (line + 1) = eqR (pr (line + 1)) (elimC (pr line) (2 ^ w) (gt w).2.2.2.2.1 (gt w).2.2.2.2.2) := by
        unfold rgK
        rw [e1, Nat.add_sub_cancel, Nat.add_sub_cancel]
      rw [← er]
      have hg2 : ∀ j, 0 < j → gwN inp n (line + 1 + j) = gwN inp w j := fun j hj => by
        rw [Nat.add_assoc, hg (1 + j) (by omega), gw_gs hgt hj]
      obtain ⟨a, c⟩ := chk_spec hg2
      by_cases hr : rgK inp n gt pr (line + 1) = true
      · rw [if_pos hr]
        refine ⟨fun h j h1 h2 => ?_, fun k h => ?_⟩
        · by_cases ej : j = line + 1
          · rw [ej]; exact hr
          · exact a h j (by omega) (by omega)
        · obtain ⟨c1, c2, c3, c4⟩ := c k h
          refine ⟨by omega, by omega, c3, fun j h1 h2 => ?_⟩
          by_cases ej : j = line + 1
          · rw [ej]; exact hr
          · exact c4 j (by omega) h2
      · rw [if_neg hr]
        refine ⟨fun h => (by cases h), fun k h => ?_⟩
        cases h
        exact ⟨by omega, by omega, Bool.eq_false_iff.mpr hr, fun j h1 h2 => by omega⟩
    · rw [if_neg hgt, if_neg hgt]
      exact chk_spec (fun j hj => (hg j hj).trans (gw_n hgt hj))
/-- the first line that isn't right -/
theorem chk_first {pr : Nat → Nat → Int64} {li c : Nat} (hli : li = ngN inp n + 1) (hc : c ≤ li) (h1 : ∀ j, j < c → rgA inp n gt cl pr j = true) (h2 : c < li → rgA inp n gt cl pr c = false) : (if eqR (pr 0) cl = true then (chkN inp gt pr n 0).getD li else 0) = c := by
  obtain ⟨a, b⟩ := chk_spec (inp := inp) (n := n) (gt := gt) (pr := pr) (w := n) (line := 0) (fun j _ => by rw [Nat.zero_add])
  have e0 : rgA inp n gt cl pr 0 = eqR (pr 0) cl := if_pos rfl
  have eK : ∀ j, 0 < j → rgA inp n gt cl pr j = rgK inp n gt pr j := fun j hj => if_neg (by omega)
  by_cases hq : eqR (pr 0) cl = true
  · rw [if_pos hq]
    have hc0 : 0 < c := by
      rcases Nat.eq_zero_or_pos c with z | z
      · have := h2 (by omega)
        rw [z, e0, hq] at this
        cases this
      · exact z
    cases hk : chkN inp gt pr n 0 with
    | none =>
      show li = c
      rcases Nat.lt_or_ge c li with z | z
      · have := h2 z
        rw [eK c hc0, a hk c hc0 (by omega)] at this
        cases this
      · omega
    | some k =>
      show k = c
      obtain ⟨b1, b2, b3, b4⟩ := b k hk
      rcases Nat.lt_trichotomy k c with z | z | z
      · have := h1 k z
        rw [eK k b1, b3] at this
        cases this
      · exact z
      · have := h2 (by omega)
        rw [eK c hc0, b4 c hc0 z] at this
        cases this
  · rw [if_neg hq]
    rcases Nat.eq_zero_or_pos c with z | z
    · exact z.symm
    · have := h1 0 z
      rw [e0] at this
      exact absurd this hq
theorem rws_supp (hgd : ∀ i, i < n → inp &&& 2 ^ i = 0 → gGood i (gt i)) (hcl : supp cl n) : ∀ {k : Nat}, k ≤ ngN inp n → supp (rwsK inp n gt cl k) n
  | 0, _ => hcl
  | k + 1, h => by
    obtain ⟨v, a, b, c⟩ := gw_ok (inp := inp) (w := n) (k := k + 1) (by omega) h
    simp only [rwsK]
    rw [c, Nat.add_sub_cancel]
    exact supp_elimC (rws_supp hgd hcl (by omega)) a (hgd v a b)
end
