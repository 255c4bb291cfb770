/-! what holds between two calls of the law -/
def BI (n inp an li : Nat) (cl : Nat → Int64) (pr : Nat → Nat → Int64) (gt : Nat → GT) (ki fi se tr : Nat → Int32) (si st : Nat → Nat) (nu : Nat → Int64) : Prop :=
  XG n inp gt ∧ MGs n inp gt ki fi se tr ∧ supp cl n ∧ cnt cl ≤ an ∧ an ≤ 40 ∧ (∀ k, k < li → LN n si st nu k (pr k) ∧ supp (pr k) n) ∧ (¬ li = 0 → li = ngN inp n + 1 ∧ ∀ j, j ≤ ngN inp n → cnt (rwsK inp n gt cl j) ≤ 40)
def FIN (kc : Nat) (v : Int64) (hp : Nat → KE) : Prop := ∃ (n inp an li : Nat) (cl ex : Nat → Int64) (pr : Nat → Nat → Int64) (gt : Nat → GT) (ki fi se tr : Nat → Int32) (si st : Nat → Nat) (nu wo fr f : Nat → Int64), XR hp n inp an li cl ex pr gt ∧ MR hp kc n an li ki fi se tr cl si st nu wo fr ∧ hp 65 = kJ 1 f ∧ BI n inp an li cl pr gt ki fi se tr si st nu ∧ (kc = 0 → f 0 = v)
def INV (hp : Nat → KE) : Prop := ∃ (n inp an li th : Nat) (cl ex : Nat → Int64) (pr : Nat → Nat → Int64) (gt : Nat → GT) (ki fi se tr : Nat → Int32) (si st : Nat → Nat) (nu wo fr f : Nat → Int64), XR hp n inp an li cl ex pr gt ∧ MR hp th n an li ki fi se tr cl si st nu wo fr ∧ hp 65 = kJ 1 f ∧ BI n inp an li cl pr gt ki fi se tr si st nu
section
variable {hp hp2 : Nat → KE} {n inp an li th : Nat} {cl ex : Nat → Int64} {pr : Nat → Nat → Int64} {gt : Nat → GT} {ki fi se tr : Nat → Int32} {si st : Nat → Nat} {nu wo fr f : Nat → Int64} {v : Int64}
theorem mkfin (h : XR hp n inp an li cl ex pr gt) (hm : MR hp th n an li ki fi se tr cl si st nu wo fr) (h65 : hp 65 = kJ 1 f) (hB : BI n inp an li cl pr gt ki fi se tr si st nu) (hv : th = 0 → f 0 = v) : FIN th v hp := ⟨n, inp, an, li, cl, ex, pr, gt, ki, fi, se, tr, si, st, nu, wo, fr, f, h, hm, h65, hB, hv⟩
theorem mkinv (h : XR hp n inp an li cl ex pr gt) (hm : MR hp th n an li ki fi se tr cl si st nu wo fr) (h65 : hp 65 = kJ 1 f) (hB : BI n inp an li cl pr gt ki fi se tr si st nu) : INV hp := ⟨n, inp, an, li, th, cl, ex, pr, gt, ki, fi, se, tr, si, st, nu, wo, fr, f, h, hm, h65, hB⟩
theorem FIN.inv (h : FIN th v hp) : INV hp := by
  obtain ⟨n, inp, an, li, cl, ex, pr, gt, ki, fi, se, tr, si, st, nu, wo, fr, f, h1, h2, h3, h4, -⟩ := h
  exact mkinv h1 h2 h3 h4
theorem XR.lo (h : XR hp n inp an li cl ex pr gt) (hF : ∀ k, k < 54 → hp2 k = hp k) : XR hp2 n inp an li cl ex pr gt :=
  ⟨(hF _ (by omega)).trans h.1, (hF _ (by omega)).trans h.2.1, (hF _ (by omega)).trans h.2.2.1, ⟨(hF _ (by omega)).trans h.2.2.2.1.1, (hF _ (by omega)).trans h.2.2.2.1.2⟩, ⟨(hF _ (by omega)).trans h.2.2.2.2.1.1, (hF _ (by omega)).trans h.2.2.2.2.1.2⟩, fun i hi => ⟨(hF _ (by omega)).trans (h.2.2.2.2.2.1 i hi).1, (hF _ (by omega)).trans (h.2.2.2.2.2.1 i hi).2⟩, fun i hi => ⟨(hF _ (by omega)).trans (h.2.2.2.2.2.2 i hi).1, (hF _ (by omega)).trans (h.2.2.2.2.2.2 i hi).2.1, (hF _ (by omega)).trans (h.2.2.2.2.2.2 i hi).2.2⟩⟩
theorem XR.fm (h : XR hp n inp an li cl ex pr gt) (hF : FM hp hp2) : XR hp2 n inp an li cl ex pr gt := h.lo (fun k hk => hF k (Or.inl hk))
theorem XR.out {x : KE} (h : XR hp n inp an li cl ex pr gt) : XR (va_up hp 65 x) n inp an li cl ex pr gt := h.lo (fun k hk => va_up_ne _ _ (by omega))
theorem MR.fw (h : MR hp th n an li ki fi se tr cl si st nu wo fr) (hF : ∀ k, 54 ≤ k → k < 65 → hp2 k = hp k) : MR hp2 th n an li ki fi se tr cl si st nu wo fr :=
  ⟨(hF _ (by omega) (by omega)).trans h.1, (hF _ (by omega) (by omega)).trans h.2.1, (hF _ (by omega) (by omega)).trans h.2.2.1, (hF _ (by omega) (by omega)).trans h.2.2.2.1, (hF _ (by omega) (by omega)).trans h.2.2.2.2.1, (hF _ (by omega) (by omega)).trans h.2.2.2.2.2.1, (hF _ (by omega) (by omega)).trans h.2.2.2.2.2.2.1, (hF _ (by omega) (by omega)).trans h.2.2.2.2.2.2.2.1, (hF _ (by omega) (by omega)).trans h.2.2.2.2.2.2.2.2.1, (hF _ (by omega) (by omega)).trans h.2.2.2.2.2.2.2.2.2.1, (hF _ (by omega) (by omega)).trans h.2.2.2.2.2.2.2.2.2.2⟩
theorem MR.fx (h : MR hp th n an li ki fi se tr cl si st nu wo fr) (hF : FX hp hp2) : MR hp2 th n an li ki fi se tr cl si st nu wo fr := h.fw (fun k h1 _ => hF k h1)
theorem MR.out {x : KE} (h : MR hp th n an li ki fi se tr cl si st nu wo fr) : MR (va_up hp 65 x) th n an li ki fi se tr cl si st nu wo fr := h.fw (fun k _ h2 => va_up_ne _ _ (by omega))
theorem FM.o65 {x : KE} (hF : FM hp hp2) (h : hp 65 = x) : hp2 65 = x := (hF 65 (Or.inr (by omega))).trans h
theorem BI.li10 (h : BI n inp an li cl pr gt ki fi se tr si st nu) : li ≤ 10 := by
  obtain ⟨h1, -, -, -, -, -, h7⟩ := h
  by_cases z : li = 0
  · omega
  · have := (h7 z).1
    have := ngN_le inp n
    have := h1.1
    omega
theorem tbk {i n : Nat} (h : i < 2 ^ n) : i.testBit n = false := Nat.testBit_lt_two_pow h
theorem BI.input (h : BI n inp an li cl pr gt ki fi se tr si st nu) (hn : n < 9) : BI (n + 1) (inp ||| 2 ^ n) an 0 cl pr gt (va_up ki (n + 1) (cI (-1))) fi se tr si st nu := by
  obtain ⟨⟨a1, a2, a3⟩, h2, h3, h4, h5, -, -⟩ := h
  have hp : 2 ^ (n + 1) = 2 ^ n * 2 := Nat.pow_succ 2 n
  have e : ∀ i, i < n → ((inp ||| 2 ^ n) &&& 2 ^ i = 0 ↔ inp &&& 2 ^ i = 0) := fun i hi => by
    rw [and_tp, and_tp, Nat.testBit_or, Nat.testBit_two_pow, decide_eq_false (by omega), Bool.or_false]
  have e2 : ¬ (inp ||| 2 ^ n) &&& 2 ^ n = 0 := by
    rw [and_tp, Nat.testBit_or, Nat.testBit_two_pow, decide_eq_true rfl, Bool.or_true]
    decide
  refine ⟨⟨by omega, Nat.or_lt_two_pow (Nat.lt_of_lt_of_le a2 (by omega)) (by have := Nat.two_pow_pos n; omega), fun i hi h0 => ?_⟩, fun i hi => ⟨fun h0 => ?_, fun h0 => ?_⟩, fun s hs => h3 s (by omega), h4, h5, fun k hk => absurd hk (Nat.not_lt_zero k), fun z => absurd rfl z⟩
  · by_cases z : i = n
    · subst z; exact absurd h0 e2
    · exact a3 i (by omega) ((e i (by omega)).mp h0)
  · by_cases z : i = n
    · subst z; exact absurd h0 e2
    · obtain ⟨b1, b2, b3, b4⟩ := (h2 i (by omega)).1 ((e i (by omega)).mp h0)
      exact ⟨(va_up_ne _ _ (by omega)).trans b1, b2, b3, b4⟩
  · by_cases z : i = n
    · subst z; exact va_up_self _ _ _
    · exact (va_up_ne _ _ (by omega)).trans ((h2 i (by omega)).2 (fun z2 => h0 ((e i (by omega)).mpr z2)))
theorem BI.gate {k a1 b1 c1 : Nat} {x a b d : Int32} (h : BI n inp an li cl pr gt ki fi se tr si st nu) (hn : n < 9) (hk : k < 4) (ha : a1 < 2 * n + 2) (hb : b1 < 2 * n + 2) (hc : c1 < 2 * n + 2) (ex : x = nI k) (ea : a = nI a1) (eb : b = nI b1) (ed : 2 ≤ k → d = nI c1) : BI (n + 1) inp an 0 cl pr (va_up gt n (k, a1, b1, c1, gV a1 b1 c1, gT k a1 b1 c1)) (va_up ki (n + 1) x) (va_up fi (n + 1) a) (va_up se (n + 1) b) (va_up tr (n + 1) d) si st nu := by
  obtain ⟨⟨a0, a2, a3⟩, h2, h3, h4, h5, -, -⟩ := h
  have hp : 2 ^ (n + 1) = 2 ^ n * 2 := Nat.pow_succ 2 n
  have hz : inp &&& 2 ^ n = 0 := (and_tp _ _).mpr (tbk a2)
  refine ⟨⟨by omega, by omega, fun i hi h0 => ?_⟩, fun i hi => ⟨fun h0 => ?_, fun h0 => ?_⟩, fun s hs => h3 s (by omega), h4, h5, fun k hk => absurd hk (Nat.not_lt_zero k), fun z => absurd rfl z⟩
  · by_cases z : i = n
    · subst z; rw [va_up_self]; exact ⟨hk, ha, hb, hc, rfl, rfl⟩
    · rw [va_up_ne _ _ z]; exact a3 i (by omega) h0
  · by_cases z : i = n
    · subst z; rw [va_up_self]; exact ⟨(va_up_self _ _ _).trans ex, (va_up_self _ _ _).trans ea, (va_up_self _ _ _).trans eb, fun q => (va_up_self _ _ _).trans (ed q)⟩
    · obtain ⟨q1, q2, q3, q4⟩ := (h2 i (by omega)).1 h0
      rw [va_up_ne _ _ z]
      exact ⟨(va_up_ne _ _ (by omega)).trans q1, (va_up_ne _ _ (by omega)).trans q2, (va_up_ne _ _ (by omega)).trans q3, fun q => (va_up_ne _ _ (by omega)).trans (q4 q)⟩
  · by_cases z : i = n
    · subst z; exact absurd hz h0
    · exact (va_up_ne _ _ (by omega)).trans ((h2 i (by omega)).2 h0)
theorem BI.add {k : Nat} {w : Int64} (h : BI n inp an li cl pr gt ki fi se tr si st nu) (hk : k < 2 ^ n) (ha : an < 40) : BI n inp (an + 1) 0 (inc cl k w) pr gt ki fi se tr si st nu := by
  obtain ⟨h1, h2, h3, h4, h5, -, -⟩ := h
  have hc := cnt_up (f := cl) (k := k) (v := cl k + w) (Nat.lt_of_lt_of_le hk (p2_lt h1.1))
  refine ⟨h1, h2, supp_inc h3 hk, ?_, by omega, fun k hk => absurd hk (Nat.not_lt_zero k), fun z => absurd rfl z⟩
  show cnt (va_up cl k (cl k + w)) ≤ an + 1
  split at hc <;> split at hc <;> omega
theorem BI.prove {pr2 : Nat → Nat → Int64} {si2 st2 : Nat → Nat} {nu2 : Nat → Int64} (h : BI n inp an li cl pr gt ki fi se tr si st nu) (h40 : ∀ j, j ≤ ngN inp n → cnt (rwsK inp n gt cl j) ≤ 40) (hL : ∀ j, j ≤ ngN inp n → LN n si2 st2 nu2 j (rwsK inp n gt cl j)) (hp : ∀ j, j ≤ ngN inp n → pr2 j = rwsK inp n gt cl j) : BI n inp an (ngN inp n + 1) cl pr2 gt ki fi se tr si2 st2 nu2 := by
  obtain ⟨h1, h2, h3, h4, h5, -, -⟩ := h
  refine ⟨h1, h2, h3, h4, h5, fun k hk => ?_, fun _ => ⟨rfl, h40⟩⟩
  rw [hp k (by omega)]
  exact ⟨hL k (by omega), rws_supp h1.2.2 h3 (by omega)⟩
theorem BI.spoil {pr2 : Nat → Nat → Int64} {si2 st2 : Nat → Nat} {nu2 : Nat → Int64} {k i : Nat} {w : Int64} (h : BI n inp an li cl pr gt ki fi se tr si st nu) (hi : i < 2 ^ n) (hL : LN n si2 st2 nu2 k (va_up (pr k) i w)) (hO : OL si st nu si2 st2 nu2 k) : BI n inp an li cl (va_up pr k (va_up (pr k) i w)) gt ki fi se tr si2 st2 nu2 := by
  obtain ⟨h1, h2, h3, h4, h5, h6, h7⟩ := h
  refine ⟨h1, h2, h3, h4, h5, fun q hq => ?_, h7⟩
  by_cases z : q = k
  · subst z; rw [va_up_self]; exact ⟨hL, supp_up (h6 q hq).2 hi⟩
  · rw [va_up_ne _ _ z]; exact ⟨hO.ln z (h6 q hq).1, (h6 q hq).2⟩
theorem BI.noline {pr2 : Nat → Nat → Int64} (h : BI n inp an 0 cl pr gt ki fi se tr si st nu) : BI n inp an 0 cl pr2 gt ki fi se tr si st nu := by
  obtain ⟨h1, h2, h3, h4, h5, -, -⟩ := h
  exact ⟨h1, h2, h3, h4, h5, fun k hk => absurd hk (Nat.not_lt_zero k), fun z => absurd rfl z⟩
theorem BI.clear : BI 0 0 0 0 (fun _ => 0) pr gt ki fi se tr si st nu := ⟨⟨by decide, by decide, fun i hi => absurd hi (Nat.not_lt_zero i)⟩, fun i hi => absurd hi (Nat.not_lt_zero i), fun _ _ => rfl, by rw [cnt0]; exact Nat.le_refl 0, by decide, fun k hk => absurd hk (Nat.not_lt_zero k), fun z => absurd rfl z⟩
end
