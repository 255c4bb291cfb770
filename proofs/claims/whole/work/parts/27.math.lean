/-! sums over the subsets of a set, and their inverse -/
theorem sub_iff {S p : Nat} : S &&& p = S ↔ ∀ t, S.testBit t = true → p.testBit t = true := by
  constructor
  · intro h t ht
    have h2 := congrArg (fun x => x.testBit t) h
    simp only [Nat.testBit_and] at h2
    rw [ht, Bool.true_and] at h2
    exact h2
  · intro h
    apply Nat.eq_of_testBit_eq
    intro t
    rw [Nat.testBit_and]
    cases ht : S.testBit t with
    | false => rfl
    | true => rw [h t ht]; rfl
theorem or_sub {x y p : Nat} : (x ||| y) &&& p = (x ||| y) ↔ x &&& p = x ∧ y &&& p = y := by
  rw [sub_iff, sub_iff, sub_iff]
  constructor
  · intro h
    exact ⟨fun t ht => h t (by rw [Nat.testBit_or, ht, Bool.true_or]), fun t ht => h t (by rw [Nat.testBit_or, ht, Bool.or_true])⟩
  · rintro ⟨h1, h2⟩ t ht
    rw [Nat.testBit_or, Bool.or_eq_true] at ht
    rcases ht with ht | ht
    · exact h1 t ht
    · exact h2 t ht
theorem agree_iff {S p j : Nat} : S % 2 ^ j = p % 2 ^ j ↔ ∀ t, t < j → S.testBit t = p.testBit t := by
  constructor
  · intro h t ht
    have h2 := congrArg (fun x => x.testBit t) h
    simp only [Nat.testBit_mod_two_pow] at h2
    rw [decide_eq_true ht, Bool.true_and, Bool.true_and] at h2
    exact h2
  · intro h
    apply Nat.eq_of_testBit_eq
    intro t
    rw [Nat.testBit_mod_two_pow, Nat.testBit_mod_two_pow]
    by_cases ht : t < j
    · rw [h t ht]
    · rw [decide_eq_false ht]; rfl
theorem and_pow {p j : Nat} : p &&& 2 ^ j = 0 ↔ p.testBit j = false := by
  constructor
  · intro h
    have h2 := congrArg (fun x => x.testBit j) h
    simp only [Nat.testBit_and, Nat.testBit_two_pow, Nat.zero_testBit] at h2
    rw [decide_eq_true trivial, Bool.and_true] at h2
    exact h2
  · intro h
    apply Nat.eq_of_testBit_eq
    intro t
    rw [Nat.testBit_and, Nat.testBit_two_pow, Nat.zero_testBit]
    by_cases e : j = t
    · rw [← e, h]; rfl
    · rw [decide_eq_false e, Bool.and_false]
theorem tb_xor {p j t : Nat} : (p ^^^ 2 ^ j).testBit t = (p.testBit t ^^ decide (j = t)) := by
  rw [Nat.testBit_xor, Nat.testBit_two_pow]
theorem vsN_congr {f g : Nat → Int64} {p : Nat} : ∀ {N : Nat}, (∀ i, i < N → f i = g i) → vsN f p N = vsN g p N
  | 0, _ => rfl
  | N + 1, h => by simp only [vsN]; rw [vsN_congr (N := N) (fun i hi => h i (by omega)), h N (by omega)]
theorem vs_cut {f : Nat → Int64} {p M : Nat} (hp : p < M) : ∀ {N : Nat}, M ≤ N → vsN f p N = vsN f p M
  | 0, h => by omega
  | N + 1, h => by
    by_cases e : M = N + 1
    · rw [e]
    · simp only [vsN]
      have h2 : N &&& p ≤ p := Nat.and_le_right
      rw [if_neg (by omega)]
      exact vs_cut hp (by omega)
theorem vs_inc {f : Nat → Int64} {k p : Nat} {v : Int64} : ∀ {N : Nat}, k < N → vsN (inc f k v) p N = vsN f p N + (if k &&& p = k then v else 0)
  | 0, h => by omega
  | N + 1, h => by
    by_cases e : k = N
    · subst e
      have h1 : vsN (inc f k v) p k = vsN f p k := vsN_congr (fun i hi => va_up_ne _ _ (by omega))
      simp only [vsN]
      rw [h1, show inc f k v k = f k + v from va_up_self _ _ _]
      split
      · rw [Int64.add_assoc]
      · rw [Int64.add_zero]
    · have ih := vs_inc (f := f) (v := v) (p := p) (k := k) (N := N) (by omega)
      simp only [vsN]
      rw [ih, show inc f k v N = f N from va_up_ne _ _ (by omega)]
      by_cases h2 : N &&& p = N
      · rw [if_pos h2, if_pos h2, Int64.add_assoc, Int64.add_comm _ (f N), ← Int64.add_assoc]
      · rw [if_neg h2, if_neg h2]
theorem xor_lt_self {p j : Nat} (h : ¬ p &&& 2 ^ j = 0) : p ^^^ 2 ^ j < p := by
  have hb : p.testBit j = true := by
    cases hh : p.testBit j with
    | true => rfl
    | false => exact absurd (and_pow.mpr hh) h
  have h2 : (p ^^^ 2 ^ j) &&& p = p ^^^ 2 ^ j := sub_iff.mpr (fun t ht => by
    rw [tb_xor] at ht
    by_cases e : j = t
    · rw [← e]; exact hb
    · rw [decide_eq_false e, Bool.xor_false] at ht; exact ht)
  have h3 : (p ^^^ 2 ^ j) &&& p ≤ p := Nat.and_le_right
  rw [h2] at h3
  rcases Nat.lt_or_ge (p ^^^ 2 ^ j) p with q | q
  · exact q
  · have h4 : p ^^^ 2 ^ j = p := by omega
    have h5 := congrArg (fun x => x.testBit j) h4
    simp only [tb_xor] at h5
    rw [hb] at h5
    simp at h5
theorem xor_clr {p j : Nat} (h : ¬ p &&& 2 ^ j = 0) : (p ^^^ 2 ^ j) &&& 2 ^ j = 0 := by
  have hb : p.testBit j = true := by
    cases hh : p.testBit j with
    | true => rfl
    | false => exact absurd (and_pow.mpr hh) h
  rw [and_pow, tb_xor, hb]
  simp
theorem pass_at {f : Nat → Int64} {j p : Nat} : ∀ {M : Nat}, passN f (2 ^ j) M p = if p < M ∧ ¬ p &&& 2 ^ j = 0 then f p - f (p ^^^ 2 ^ j) else f p
  | 0 => by rw [if_neg (fun z => Nat.not_lt_zero _ z.1)]; rfl
  | M + 1 => by
    have ih := fun q => pass_at (f := f) (j := j) (p := q) (M := M)
    simp only [passN]
    by_cases hM : M &&& 2 ^ j = 0
    · rw [if_pos hM, ih p]
      by_cases hp : p = M
      · subst hp
        rw [if_neg (fun z => z.2 hM), if_neg (fun z => z.2 hM)]
      · by_cases hq : p < M ∧ ¬ p &&& 2 ^ j = 0
        · rw [if_pos hq, if_pos ⟨by omega, hq.2⟩]
        · rw [if_neg hq, if_neg (fun z => hq ⟨by omega, z.2⟩)]
    · rw [if_neg hM]
      by_cases hp : p = M
      · subst hp
        rw [va_up_self, ih p, ih (p ^^^ 2 ^ j), if_neg (fun z => Nat.lt_irrefl _ z.1), if_neg (fun z => z.2 (xor_clr hM)), if_pos ⟨by omega, hM⟩]
      · rw [va_up_ne _ _ hp, ih p]
        by_cases hq : p < M ∧ ¬ p &&& 2 ^ j = 0
        · rw [if_pos hq, if_pos ⟨by omega, hq.2⟩]
        · rw [if_neg hq, if_neg (fun z => hq ⟨by omega, z.2⟩)]
def wS (row : Nat → Int64) (j p : Nat) : Nat → Int64
  | 0 => 0
  | S + 1 => if S &&& p = S ∧ S % 2 ^ j = p % 2 ^ j then wS row j p S + row S else wS row j p S
theorem wS_0 {row : Nat → Int64} {p : Nat} : ∀ {M : Nat}, wS row 0 p M = vsN row p M
  | 0 => rfl
  | M + 1 => by
    simp only [wS, vsN]
    rw [wS_0 (M := M)]
    by_cases h : M &&& p = M
    · rw [if_pos h, if_pos ⟨h, by rw [Nat.pow_zero, Nat.mod_one, Nat.mod_one]⟩]
    · rw [if_neg h, if_neg (fun z => h z.1)]
theorem wS_clr {row : Nat → Int64} {j p : Nat} (h : p &&& 2 ^ j = 0) : ∀ {M : Nat}, wS row (j + 1) p M = wS row j p M
  | 0 => rfl
  | M + 1 => by
    have hb := and_pow.mp h
    have e : (M &&& p = M ∧ M % 2 ^ (j + 1) = p % 2 ^ (j + 1)) ↔ (M &&& p = M ∧ M % 2 ^ j = p % 2 ^ j) := by
      rw [agree_iff, agree_iff]
      constructor
      · exact fun q => ⟨q.1, fun t ht => q.2 t (by omega)⟩
      · intro q
        refine ⟨q.1, fun t ht => ?_⟩
        by_cases e : t = j
        · subst e
          rw [hb]
          cases hm : M.testBit t with
          | false => rfl
          | true => rw [sub_iff.mp q.1 t hm] at hb; cases hb
        · exact q.2 t (by omega)
    simp only [wS]
    rw [wS_clr h (M := M)]
    by_cases q : M &&& p = M ∧ M % 2 ^ j = p % 2 ^ j
    · rw [if_pos q, if_pos (e.mpr q)]
    · rw [if_neg q, if_neg (fun z => q (e.mp z))]
theorem wS_set {row : Nat → Int64} {j p : Nat} (h : ¬ p &&& 2 ^ j = 0) : ∀ {M : Nat}, wS row j p M = wS row (j + 1) p M + wS row j (p ^^^ 2 ^ j) M
  | 0 => (Int64.add_zero (0 : Int64)).symm
  | M + 1 => by
    have hb : p.testBit j = true := by
      cases hh : p.testBit j with
      | true => rfl
      | false => exact absurd (and_pow.mpr hh) h
    have ih := wS_set (row := row) h (M := M)
    have eQ : M.testBit j = true → ((M &&& p = M ∧ M % 2 ^ j = p % 2 ^ j) ↔ (M &&& p = M ∧ M % 2 ^ (j + 1) = p % 2 ^ (j + 1))) := by
      intro hm
      rw [agree_iff, agree_iff]
      constructor
      · intro q
        refine ⟨q.1, fun t ht => ?_⟩
        by_cases e : t = j
        · rw [e, hm, hb]
        · exact q.2 t (by omega)
      · exact fun q => ⟨q.1, fun t ht => q.2 t (by omega)⟩
    have eR : M.testBit j = true → ¬ (M &&& (p ^^^ 2 ^ j) = M ∧ M % 2 ^ j = (p ^^^ 2 ^ j) % 2 ^ j) := by
      intro hm q
      have := sub_iff.mp q.1 j hm
      rw [tb_xor, hb] at this
      simp at this
    have eQ2 : M.testBit j = false → ¬ (M &&& p = M ∧ M % 2 ^ (j + 1) = p % 2 ^ (j + 1)) := by
      intro hm q
      have := agree_iff.mp q.2 j (by omega)
      rw [hm, hb] at this
      cases this
    have eR2 : M.testBit j = false → ((M &&& p = M ∧ M % 2 ^ j = p % 2 ^ j) ↔ (M &&& (p ^^^ 2 ^ j) = M ∧ M % 2 ^ j = (p ^^^ 2 ^ j) % 2 ^ j)) := by
      intro hm
      have hx : ∀ t, t ≠ j → (p ^^^ 2 ^ j).testBit t = p.testBit t := fun t ht => by
        rw [tb_xor, decide_eq_false (Ne.symm ht), Bool.xor_false]
      rw [agree_iff, agree_iff, sub_iff, sub_iff]
      constructor
      · intro q
        refine ⟨fun t ht => ?_, fun t ht => ?_⟩
        · have : t ≠ j := fun z => by rw [z, hm] at ht; cases ht
          rw [hx t this]; exact q.1 t ht
        · rw [hx t (by omega)]; exact q.2 t ht
      · intro q
        refine ⟨fun t ht => ?_, fun t ht => ?_⟩
        · have : t ≠ j := fun z => by rw [z, hm] at ht; cases ht
          rw [← hx t this]; exact q.1 t ht
        · rw [← hx t (by omega)]; exact q.2 t ht
    simp only [wS]
    rw [ih]
    cases hm : M.testBit j with
    | true =>
      rw [if_neg (eR hm)]
      by_cases q : M &&& p = M ∧ M % 2 ^ j = p % 2 ^ j
      · rw [if_pos q, if_pos ((eQ hm).mp q), Int64.add_assoc, Int64.add_comm _ (row M), ← Int64.add_assoc]
      · rw [if_neg q, if_neg (fun z => q ((eQ hm).mpr z))]
    | false =>
      rw [if_neg (eQ2 hm)]
      by_cases q : M &&& p = M ∧ M % 2 ^ j = p % 2 ^ j
      · rw [if_pos q, if_pos ((eR2 hm).mp q), Int64.add_assoc]
      · rw [if_neg q, if_neg (fun z => q ((eR2 hm).mpr z))]
theorem wS_n {row : Nat → Int64} {n p : Nat} (hp : p < 2 ^ n) : ∀ {M : Nat}, M ≤ 2 ^ n → wS row n p M = if p < M then row p else 0
  | 0, _ => by rw [if_neg (Nat.not_lt_zero _)]; rfl
  | M + 1, h => by
    have ih := wS_n (row := row) hp (M := M) (by omega)
    simp only [wS]
    rw [ih, Nat.mod_eq_of_lt (show M < 2 ^ n by omega), Nat.mod_eq_of_lt hp]
    by_cases e : M = p
    · subst e
      rw [if_pos ⟨Nat.and_self _, rfl⟩, if_neg (Nat.lt_irrefl _), if_pos (Nat.lt_succ_self _), Int64.zero_add]
    · rw [if_neg (fun z => e z.2)]
      by_cases q : p < M
      · rw [if_pos q, if_pos (by omega)]
      · rw [if_neg q, if_neg (by omega)]
theorem mob_w {f row : Nat → Int64} {n : Nat} (hf : ∀ p, p < 2 ^ n → f p = vsN row p (2 ^ n)) : ∀ {j : Nat}, j ≤ n → ∀ {p : Nat}, p < 2 ^ n → mobN f (2 ^ n) j p = wS row j p (2 ^ n)
  | 0, _, p, hp => by rw [wS_0]; exact hf p hp
  | j + 1, hj, p, hp => by
    have ih := fun q (hq : q < 2 ^ n) => mob_w hf (j := j) (by omega) (p := q) hq
    simp only [mobN]
    rw [pass_at]
    by_cases h : p &&& 2 ^ j = 0
    · rw [if_neg (fun z => z.2 h), ih p hp, wS_clr h]
    · have hx := xor_lt_self h
      rw [if_pos ⟨hp, h⟩, ih p hp, ih _ (by omega), wS_set h, Int64.add_sub_cancel]
/-- the sums over subsets turned back -/
theorem mob_inv {f row : Nat → Int64} {n : Nat} (hf : ∀ p, p < 2 ^ n → f p = vsN row p (2 ^ n)) {p : Nat} (hp : p < 2 ^ n) : mobN f (2 ^ n) n p = row p := by
  rw [mob_w hf (Nat.le_refl n) hp, wS_n hp (Nat.le_refl _), if_pos hp]
theorem pass_inj {f g : Nat → Int64} {j n : Nat} (h : ∀ p, p < 2 ^ n → passN f (2 ^ j) (2 ^ n) p = passN g (2 ^ j) (2 ^ n) p) : ∀ p, p < 2 ^ n → f p = g p := by
  intro p hp
  have h1 := h p hp
  rw [pass_at, pass_at] at h1
  by_cases hc : p &&& 2 ^ j = 0
  · rw [if_neg (fun z => z.2 hc), if_neg (fun z => z.2 hc)] at h1
    exact h1
  · have hx := xor_lt_self hc
    have hk := xor_clr hc
    have h2 := h (p ^^^ 2 ^ j) (by omega)
    rw [pass_at, pass_at, if_neg (fun z => z.2 hk), if_neg (fun z => z.2 hk)] at h2
    rw [if_pos ⟨hp, hc⟩, if_pos ⟨hp, hc⟩, h2] at h1
    have h3 := congrArg (fun x => x + g (p ^^^ 2 ^ j)) h1
    simp only [Int64.sub_add_cancel] at h3
    exact h3
theorem mob_inj {f g : Nat → Int64} {n : Nat} : ∀ {j : Nat}, (∀ p, p < 2 ^ n → mobN f (2 ^ n) j p = mobN g (2 ^ n) j p) → ∀ p, p < 2 ^ n → f p = g p
  | 0, h => h
  | j + 1, h => mob_inj (j := j) (pass_inj h)
theorem vs_mob {f : Nat → Int64} {n p : Nat} (hp : p < 2 ^ n) : vsN (mobN f (2 ^ n) n) p (2 ^ n) = f p :=
  mob_inj (j := n) (f := fun q => vsN (mobN f (2 ^ n) n) q (2 ^ n)) (g := f) (fun q hq => mob_inv (fun _ _ => rfl) hq) p hp
theorem turn_pass {f : Nat → Int64} {b : Nat} (hb : b = 1 ∨ b = 2 ∨ b = 4) : ∀ {i : Nat}, i ≤ 8 → turnN f b i = passN f b i
  | 0, _ => rfl
  | i + 1, h => by
    simp only [turnN, passN]
    rw [turn_pass hb (i := i) (by omega)]
    by_cases hi : i &&& b = 0
    · rw [if_pos hi, if_pos hi]
    · rw [if_neg hi, if_neg hi]
      have e : ∀ i, i < 8 → ∀ b, b < 5 → (b = 1 ∨ b = 2 ∨ b = 4) → ¬ i &&& b = 0 → i - b = i ^^^ b := by decide
      rw [e i (by omega) b (by omega) hb hi]
theorem vs_gT {kd a b c X : Nat} (hX : X < 8) : vsN (gT kd a b c) X 8 = gN kd a b c X := by
  have h : gT kd a b c = mobN (gN kd a b c) (2 ^ 3) 3 := by
    unfold gT
    rw [turn_pass (Or.inl rfl) (Nat.le_refl _), turn_pass (Or.inr (Or.inl rfl)) (Nat.le_refl _), turn_pass (Or.inr (Or.inr rfl)) (Nat.le_refl _)]
    rfl
  rw [h]
  exact vs_mob (n := 3) hX
