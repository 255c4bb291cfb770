theorem mul_sub0 {x w p : Nat} : ((x % 2) * w) &&& p = (x % 2) * w ↔ x % 2 = 0 ∨ w &&& p = w := by
  rcases (show x % 2 = 0 ∨ x % 2 = 1 by omega) with e | e <;> rw [e]
  · rw [Nat.zero_mul, Nat.zero_and]; simp
  · rw [Nat.one_mul]; simp
def bN3 (xa xb xc : Bool) : Nat := xa.toNat + 2 * xb.toNat + 4 * xc.toNat
theorem x3 : ∀ xa xb xc : Bool, ∀ t, t < 8 → (((t % 2 = 0 ∨ xa = true) ∧ (t / 2 % 2 = 0 ∨ xb = true) ∧ (t / 4 % 2 = 0 ∨ xc = true)) ↔ t &&& bN3 xa xb xc = t) := by decide +kernel
theorem x3d : ∀ xa xb xc : Bool, bN3 xa xb xc < 8 ∧ bN3 xa xb xc % 2 = xa.toNat ∧ bN3 xa xb xc / 2 % 2 = xb.toNat ∧ bN3 xa xb xc / 4 % 2 = xc.toNat := by decide +kernel
set_option maxRecDepth 100000 in
theorem xlit : ∀ a : Nat, a < 20 → ∀ p : Nat, p < 512 → litF a (decide (wbit a &&& p = wbit a)).toNat = litW a p := by decide +kernel
def gS (ts : Nat → Nat) (tn : Nat → Int64) (p : Nat) : Nat → Int64
  | 0 => 0
  | t + 1 => if ts t &&& p = ts t then gS ts tn p t + tn t else gS ts tn p t
theorem gS_vs {a b c p : Nat} {tn : Nat → Int64} : ∀ {m : Nat}, m ≤ 8 → gS (gV a b c) tn p m = vsN tn (bN3 (decide (wbit a &&& p = wbit a)) (decide (wbit b &&& p = wbit b)) (decide (wbit c &&& p = wbit c))) m
  | 0, _ => rfl
  | m + 1, h => by
    have e : (gV a b c m &&& p = gV a b c m) ↔ m &&& bN3 (decide (wbit a &&& p = wbit a)) (decide (wbit b &&& p = wbit b)) (decide (wbit c &&& p = wbit c)) = m := by
      rw [← x3 _ _ _ m (by omega)]
      unfold gV
      rw [or_sub, or_sub, mul_sub0, mul_sub0, mul_sub0, decide_eq_true_eq, decide_eq_true_eq, decide_eq_true_eq, and_assoc]
    simp only [gS, vsN]
    rw [gS_vs (m := m) (by omega)]
    by_cases q : gV a b c m &&& p = gV a b c m
    · rw [if_pos q, if_pos (e.mp q)]
    · rw [if_neg q, if_neg (fun z => q (e.mpr z))]
theorem gS_gate {kd a b c p : Nat} (ha : a < 20) (hb : b < 20) (hc : c < 20) (hp : p < 512) : gS (gV a b c) (gT kd a b c) p 8 = lN (outc kd (litW a p) (litW b p) (litW c p)) := by
  rw [gS_vs (Nat.le_refl _)]
  obtain ⟨h1, h2, h3, h4⟩ := x3d (decide (wbit a &&& p = wbit a)) (decide (wbit b &&& p = wbit b)) (decide (wbit c &&& p = wbit c))
  rw [vs_gT h1]
  unfold gN
  rw [h2, h3, h4, xlit a ha p hp, xlit b hb p hp, xlit c hc p hp]
def aS (p S : Nat) (num : Int64) (ts : Nat → Nat) (tn : Nat → Int64) : Nat → Int64
  | 0 => 0
  | t + 1 => aS p S num ts tn t + (if (S ||| ts t) &&& p = (S ||| ts t) then num * tn t else 0)
theorem vs_addN {f : Nat → Int64} {p S : Nat} {num : Int64} {ts : Nat → Nat} {tn : Nat → Int64} (hS : S < 512) (hts : ∀ t, t < 8 → ts t < 512) : ∀ {m : Nat}, m ≤ 8 → vsN (addN f S num ts tn m) p 512 = vsN f p 512 + aS p S num ts tn m
  | 0, _ => (Int64.add_zero _).symm
  | m + 1, h => by
    simp only [addN, aS]
    rw [vs_inc (or_lt9 hS (hts m (by omega))), vs_addN hS hts (m := m) (by omega), Int64.add_assoc]
theorem aS_eq {p S : Nat} {num : Int64} {ts : Nat → Nat} {tn : Nat → Int64} : ∀ {m : Nat}, aS p S num ts tn m = if S &&& p = S then num * gS ts tn p m else 0
  | 0 => by
    simp only [aS, gS]
    split
    · rw [Int64.mul_zero]
    · rfl
  | m + 1 => by
    simp only [aS, gS]
    rw [aS_eq (m := m)]
    by_cases h : S &&& p = S
    · rw [if_pos h, if_pos h]
      by_cases h2 : ts m &&& p = ts m
      · rw [if_pos (or_sub.mpr ⟨h, h2⟩), if_pos h2, Int64.mul_add]
      · rw [if_neg (fun z => h2 (or_sub.mp z).2), if_neg h2, Int64.add_zero]
    · rw [if_neg h, if_neg h, if_neg (fun z => h (or_sub.mp z).1), Int64.add_zero]
theorem vsN_zero {p : Nat} : ∀ {N : Nat}, vsN (fun _ => 0) p N = 0
  | 0 => rfl
  | N + 1 => by
    simp only [vsN]
    rw [vsN_zero (N := N)]
    split
    · exact Int64.add_zero _
    · rfl
set_option maxRecDepth 100000 in
theorem clr_x : ∀ i : Nat, i < 9 → ∀ p : Nat, p < 512 → p &&& (511 ^^^ 2 ^ i) = if p &&& 2 ^ i = 0 then p else p ^^^ 2 ^ i := by decide +kernel
theorem red_tb {t : GT} {i p u : Nat} (hi : i < 9) (hp : p < 512) : (red t i p).testBit u = if u = i then decide (gOut t p = 1) else p.testBit u := by
  unfold red
  by_cases h : gOut t p = 1
  · rw [if_pos h, Nat.testBit_or, Nat.testBit_two_pow, decide_eq_true h]
    by_cases e : u = i
    · rw [if_pos e, decide_eq_true e.symm, Bool.or_true]
    · rw [if_neg e, decide_eq_false (Ne.symm e), Bool.or_false]
  · rw [if_neg h, decide_eq_false h, clr_x i hi p hp]
    by_cases hc : p &&& 2 ^ i = 0
    · rw [if_pos hc]
      by_cases e : u = i
      · rw [if_pos e, e, and_pow.mp hc]
      · rw [if_neg e]
    · rw [if_neg hc, tb_xor]
      by_cases e : u = i
      · have hb : p.testBit i = true := by
          cases hh : p.testBit i with
          | true => rfl
          | false => exact absurd (and_pow.mpr hh) hc
        rw [if_pos e, e, hb, decide_eq_true rfl]; rfl
      · rw [if_neg e, decide_eq_false (Ne.symm e), Bool.xor_false]
theorem sub_pow {M i : Nat} : i < 9 → M < 512 → ¬ M &&& 2 ^ i = 0 → M - 2 ^ i = M ^^^ 2 ^ i := by
  have h : ∀ i : Nat, i < 9 → ∀ M : Nat, M < 512 → ¬ M &&& 2 ^ i = 0 → M - 2 ^ i = M ^^^ 2 ^ i := by decide +kernel
  exact fun a b c => h i a M b c
theorem vsN_s {row : Nat → Int64} {o M : Nat} : vsN row o (M + 1) = if M &&& o = M then vsN row o M + row M else vsN row o M := rfl
theorem elimN_s {row : Nat → Int64} {wb : Nat} {ts : Nat → Nat} {tn : Nat → Int64} {M : Nat} : elimN row wb ts tn (M + 1) = if row M = 0 then elimN row wb ts tn M else if M &&& wb = 0 then inc (elimN row wb ts tn M) M (row M) else addN (elimN row wb ts tn M) (M - wb) (row M) ts tn 8 := rfl
theorem vs_elim {t : GT} {i p : Nat} {row : Nat → Int64} (hi : i < 9) (hg : gGood i t) (hp : p < 512) : ∀ {M : Nat}, M ≤ 512 → vsN (elimN row (2 ^ i) t.2.2.2.2.1 t.2.2.2.2.2 M) p 512 = vsN row (red t i p) M
  | 0, _ => vsN_zero
  | M + 1, h => by
    have ih := vs_elim (row := row) hi hg hp (M := M) (by omega)
    have hlt := hg.lt hi
    obtain ⟨g1, g2, g3, g4, g5, g6⟩ := hg
    rw [elimN_s, vsN_s (row := row) (o := red t i p)]
    by_cases hr : row M = 0
    · rw [if_pos hr, ih, hr, Int64.add_zero]
      split <;> rfl
    · rw [if_neg hr]
      by_cases hM : M &&& 2 ^ i = 0
      · have hb := and_pow.mp hM
        have e : M &&& red t i p = M ↔ M &&& p = M := by
          rw [sub_iff, sub_iff]
          have hx : ∀ u, M.testBit u = true → (red t i p).testBit u = p.testBit u := fun u hu => by
            rw [red_tb hi hp, if_neg (fun z => by rw [z, hb] at hu; cases hu)]
          exact ⟨fun q u hu => by rw [← hx u hu]; exact q u hu, fun q u hu => by rw [hx u hu]; exact q u hu⟩
        rw [if_pos hM, vs_inc (by omega), ih]
        by_cases q : M &&& p = M
        · rw [if_pos q, if_pos (e.mpr q)]
        · rw [if_neg q, if_neg (fun z => q (e.mp z)), Int64.add_zero]
      · have hb : M.testBit i = true := by
          cases hh : M.testBit i with
          | true => rfl
          | false => exact absurd (and_pow.mpr hh) hM
        have e : M &&& red t i p = M ↔ ((M ^^^ 2 ^ i) &&& p = M ^^^ 2 ^ i ∧ gOut t p = 1) := by
          rw [sub_iff, sub_iff]
          constructor
          · intro q
            refine ⟨fun u hu => ?_, ?_⟩
            · rw [tb_xor] at hu
              by_cases e9 : i = u
              · rw [← e9, hb, decide_eq_true rfl] at hu; cases hu
              · rw [decide_eq_false e9, Bool.xor_false] at hu
                have := q u hu
                rw [red_tb hi hp, if_neg (Ne.symm e9)] at this
                exact this
            · have := q i hb
              rw [red_tb hi hp, if_pos rfl] at this
              exact of_decide_eq_true this
          · rintro ⟨q, q2⟩ u hu
            rw [red_tb hi hp]
            by_cases e9 : u = i
            · rw [if_pos e9, decide_eq_true q2]
            · rw [if_neg e9]
              exact q u (by rw [tb_xor, decide_eq_false (Ne.symm e9), Bool.xor_false]; exact hu)
        have hS : M - 2 ^ i < 512 := Nat.lt_of_le_of_lt (Nat.sub_le _ _) (by omega)
        rw [if_neg hM, vs_addN hS hlt (Nat.le_refl _), ih, aS_eq, sub_pow hi (by omega) hM, g5, g6, gS_gate (by omega) (by omega) (by omega) hp]
        show _ + (if _ then row M * lN (gOut t p) else 0) = _
        have hgo := gOut_lt (t := t) (p := p)
        by_cases q : (M ^^^ 2 ^ i) &&& p = M ^^^ 2 ^ i
        · rw [if_pos q]
          rcases (show gOut t p = 0 ∨ gOut t p = 1 by omega) with q2 | q2
          · rw [q2, if_neg (fun z => by have := (e.mp z).2; omega), show lN 0 = 0 from rfl, Int64.mul_zero, Int64.add_zero]
          · rw [q2, if_pos (e.mpr ⟨q, q2⟩), show lN 1 = 1 from rfl, Int64.mul_one]
        · rw [if_neg q, if_neg (fun z => q (e.mp z).1), Int64.add_zero]
/-- eliminating a gate is redirecting the values -/
theorem elim_vs {t : GT} {i p n : Nat} {row : Nat → Int64} (hn : n ≤ 9) (hi : i < n) (hg : gGood i t) (hp : p < 2 ^ n) : vsN (elimC row (2 ^ i) t.2.2.2.2.1 t.2.2.2.2.2) p (2 ^ n) = vsN row (red t i p) (2 ^ n) := by
  have h2 := p2_lt hn
  rw [← vs_cut hp h2, ← vs_cut (red_lt hn hi hp) h2]
  exact vs_elim (by omega) hg (by omega) (Nat.le_refl _)
/-! rows of small sets -/
def supp (row : Nat → Int64) (n : Nat) : Prop := ∀ s, 2 ^ n ≤ s → row s = 0
theorem supp_inc {f : Nat → Int64} {n k : Nat} {v : Int64} (h : supp f n) (hk : k < 2 ^ n) : supp (inc f k v) n := fun s hs => (va_up_ne _ _ (by omega)).trans (h s hs)
theorem supp_up {f : Nat → Int64} {n k : Nat} {v : Int64} (h : supp f n) (hk : k < 2 ^ n) : supp (va_up f k v) n := fun s hs => (va_up_ne _ _ (by omega)).trans (h s hs)
theorem supp_addN {f : Nat → Int64} {n S : Nat} {num : Int64} {ts : Nat → Nat} {tn : Nat → Int64} (h : supp f n) (hS : S < 2 ^ n) (hts : ∀ t, t < 8 → ts t < 2 ^ n) : ∀ {m : Nat}, m ≤ 8 → supp (addN f S num ts tn m) n
  | 0, _ => h
  | m + 1, hm => supp_inc (supp_addN h hS hts (m := m) (by omega)) (Nat.or_lt_two_pow hS (hts m (by omega)))
theorem wbit_lt2 {a i n : Nat} (ha : a < 2 * i + 2) (hi : i < n) : wbit a < 2 ^ n := by
  unfold wbit
  split
  · exact Nat.two_pow_pos n
  · exact p2_smono (by omega)
theorem gV_lt2 {a b c i n t : Nat} (ha : a < 2 * i + 2) (hb : b < 2 * i + 2) (hc : c < 2 * i + 2) (hi : i < n) : gV a b c t < 2 ^ n := by
  have h : ∀ x y, y < 2 ^ n → (x % 2) * y < 2 ^ n := fun x y hy => by
    rcases (show x % 2 = 0 ∨ x % 2 = 1 by omega) with e | e <;> rw [e] <;> omega
  unfold gV
  exact Nat.or_lt_two_pow (Nat.or_lt_two_pow (h _ _ (wbit_lt2 ha hi)) (h _ _ (wbit_lt2 hb hi))) (h _ _ (wbit_lt2 hc hi))
theorem supp_elim {row : Nat → Int64} {t : GT} {i n : Nat} (h : supp row n) (hi : i < n) (hg : gGood i t) : ∀ {M : Nat}, supp (elimN row (2 ^ i) t.2.2.2.2.1 t.2.2.2.2.2 M) n
  | 0 => fun _ _ => rfl
  | M + 1 => by
    have ih := supp_elim h hi hg (M := M)
    obtain ⟨g1, g2, g3, g4, g5, g6⟩ := hg
    simp only [elimN]
    split
    · exact ih
    · rename_i hr
      have hM : M < 2 ^ n := by
        rcases Nat.lt_or_ge M (2 ^ n) with q | q
        · exact q
        · exact absurd (h M q) hr
      split
      · exact supp_inc ih hM
      · exact supp_addN ih (Nat.lt_of_le_of_lt (Nat.sub_le _ _) hM) (fun t _ => by rw [g5]; exact gV_lt2 g2 g3 g4 hi) (Nat.le_refl _)
theorem supp_elimC {row : Nat → Int64} {t : GT} {i n : Nat} (h : supp row n) (hi : i < n) (hg : gGood i t) : supp (elimC row (2 ^ i) t.2.2.2.2.1 t.2.2.2.2.2) n := supp_elim h hi hg
theorem cntN_cut {f : Nat → Int64} {M : Nat} (h : ∀ s, M ≤ s → f s = 0) : ∀ {N : Nat}, M ≤ N → cntN f N = cntN f M
  | 0, hN => by rw [Nat.le_zero.mp hN]
  | N + 1, hN => by
    by_cases e : M = N + 1
    · rw [e]
    · simp only [cntN]
      rw [if_pos (h N (by omega)), cntN_cut h (N := N) (by omega)]
      rfl
theorem supp_cnt {f : Nat → Int64} {n : Nat} (hn : n ≤ 9) (h : supp f n) : cnt f = cntN f (2 ^ n) := cntN_cut h (p2_lt hn)
theorem supp_eqR {f g : Nat → Int64} {n : Nat} (hn : n ≤ 9) (hf : supp f n) (hg : supp g n) : eqR f g = eqN f g (2 ^ n) := by
  have h2 := p2_lt hn
  rw [Bool.eq_iff_iff]
  unfold eqR
  rw [eqN_iff, eqN_iff]
  constructor
  · exact fun q i hi => q i (by omega)
  · intro q i hi
    rcases Nat.lt_or_ge i (2 ^ n) with q2 | q2
    · exact q i q2
    · rw [hf i q2, hg i q2]
theorem monAt_cut {f : Nat → Int64} {M m : Nat} (h : ∀ s, M < s → f s = 0) : ∀ {N : Nat}, M ≤ N → monAt f N m = monAt f M m
  | 0, hN => by rw [Nat.le_zero.mp hN]
  | N + 1, hN => by
    by_cases e : M = N + 1
    · rw [e]
    · simp only [monAt]
      rw [if_pos (h (N + 1) (by omega)), monAt_cut h (N := N) (by omega)]
theorem supp_mon {f : Nat → Int64} {n m : Nat} (hn : n ≤ 9) (h : supp f n) : monAt f 511 m = monAt f (2 ^ n - 1) m := by
  have h2 := p2_lt hn
  exact monAt_cut (fun s hs => h s (by omega)) (by omega)
theorem popN_le (k : Nat) : popN k ≤ 9 := by rw [← mN_pop]; exact mN_le k 9
theorem lm_wt {f : Nat → Int64} : ∀ {i : Nat}, lmN f i = match wtN f i with
    | none => (0, 10)
    | some b => (b, popN b)
  | 0 => rfl
  | i + 1 => by
    have ih := lm_wt (f := f) (i := i)
    have hp := popN_le i
    simp only [lmN, wtN]
    by_cases h : f i = 0
    · rw [if_pos h, if_pos h]; exact ih
    · rw [if_neg h, if_neg h, ih]
      cases hw : wtN f i with
      | none =>
        dsimp only
        rw [if_pos (by omega)]
      | some b =>
        dsimp only
        by_cases q : popN i < popN b
        · rw [if_pos q, if_pos q]
        · rw [if_neg q, if_neg q]
theorem lmN_cut {f : Nat → Int64} {M : Nat} (h : ∀ s, M ≤ s → f s = 0) : ∀ {N : Nat}, M ≤ N → lmN f N = lmN f M
  | 0, hN => by rw [Nat.le_zero.mp hN]
  | N + 1, hN => by
    by_cases e : M = N + 1
    · rw [e]
    · simp only [lmN]
      rw [if_pos (h N (by omega)), lmN_cut h (N := N) (by omega)]
theorem wtN_none {f : Nat → Int64} : ∀ {i : Nat}, wtN f i = none → cntN f i = 0
  | 0, _ => rfl
  | i + 1, h => by
    simp only [wtN] at h
    simp only [cntN]
    split at h
    · rename_i h2
      rw [if_pos h2, wtN_none h]
    · split at h
      · cases h
      · split at h <;> cases h
/-- the least monomial of fewest wires, found twice -/
theorem supp_least {f : Nat → Int64} {n : Nat} (hn : n ≤ 9) (h : supp f n) (hc : ¬ cnt f = 0) : ∃ b, wtN f (2 ^ n) = some b ∧ (lmN f 512).1 = b := by
  have h1 := lm_wt (f := f) (i := 2 ^ n)
  rw [lmN_cut h (p2_lt hn)]
  cases hw : wtN f (2 ^ n) with
  | none => exact absurd ((supp_cnt hn h).trans (wtN_none hw)) hc
  | some b =>
    rw [hw] at h1
    exact ⟨b, rfl, by rw [h1]⟩
