def MObj (th wi an li : Nat) : KE := kO 3 [.int (nI th), .int (nI wi), .ref 55, .ref 56, .ref 57, .ref 58, .int (nI an), .ref 59, .int (nI li), .ref 60, .ref 61, .ref 62, .ref 63, .ref 64]
/-- the reference's objects -/
def MR (hp : Nat → KE) (th wi an li : Nat) (ki fi se tr : Nat → Int32) (cl : Nat → Int64) (si st : Nat → Nat) (nu wo fr : Nat → Int64) : Prop :=
  hp 54 = MObj th wi an li ∧ hp 55 = kI 10 ki ∧ hp 56 = kI 10 fi ∧ hp 57 = kI 10 se ∧ hp 58 = kI 10 tr ∧ hp 59 = kJ 512 cl ∧ hp 60 = kI 10 (fun k => nI (si k)) ∧ hp 61 = kI 400 (fun k => nI (st k)) ∧ hp 62 = kJ 400 nu ∧ hp 63 = kJ 512 wo ∧ hp 64 = kJ 512 fr
def FM (hp hp' : Nat → KE) : Prop := ∀ k, k < 54 ∨ 65 ≤ k → hp' k = hp k
theorem FM.rf {hp : Nat → KE} : FM hp hp := fun _ _ => rfl
theorem FM.tr {a b c : Nat → KE} (h1 : FM a b) (h2 : FM b c) : FM a c := fun k hk => (h2 k hk).trans (h1 k hk)
theorem FM.up {hp : Nat → KE} {q : Nat} {x : KE} (h1 : 54 ≤ q) (h2 : q < 65) : FM hp (va_up hp q x) := fun k hk => va_up_ne _ _ (by omega)
section
variable {hp : Nat → KE} {th wi an li th2 wi2 an2 li2 : Nat} {ki fi se tr : Nat → Int32} {cl : Nat → Int64} {si st : Nat → Nat} {nu wo fr : Nat → Int64}
theorem MR.g100 (h : MR hp th wi an li ki fi se tr cl si st nu wo fr) : hp 54 = MObj th wi an li := h.1
theorem MR.g101 (h : MR hp th wi an li ki fi se tr cl si st nu wo fr) : hp 55 = kI 10 ki := h.2.1
theorem MR.g102 (h : MR hp th wi an li ki fi se tr cl si st nu wo fr) : hp 56 = kI 10 fi := h.2.2.1
theorem MR.g103 (h : MR hp th wi an li ki fi se tr cl si st nu wo fr) : hp 57 = kI 10 se := h.2.2.2.1
theorem MR.g104 (h : MR hp th wi an li ki fi se tr cl si st nu wo fr) : hp 58 = kI 10 tr := h.2.2.2.2.1
theorem MR.g105 (h : MR hp th wi an li ki fi se tr cl si st nu wo fr) : hp 59 = kJ 512 cl := h.2.2.2.2.2.1
theorem MR.g106 (h : MR hp th wi an li ki fi se tr cl si st nu wo fr) : hp 60 = kI 10 (fun k => nI (si k)) := h.2.2.2.2.2.2.1
theorem MR.g107 (h : MR hp th wi an li ki fi se tr cl si st nu wo fr) : hp 61 = kI 400 (fun k => nI (st k)) := h.2.2.2.2.2.2.2.1
theorem MR.g108 (h : MR hp th wi an li ki fi se tr cl si st nu wo fr) : hp 62 = kJ 400 nu := h.2.2.2.2.2.2.2.2.1
theorem MR.g109 (h : MR hp th wi an li ki fi se tr cl si st nu wo fr) : hp 63 = kJ 512 wo := h.2.2.2.2.2.2.2.2.2.1
theorem MR.g110 (h : MR hp th wi an li ki fi se tr cl si st nu wo fr) : hp 64 = kJ 512 fr := h.2.2.2.2.2.2.2.2.2.2
theorem MR.obj (h : MR hp th wi an li ki fi se tr cl si st nu wo fr) : MR (va_up hp 54 (MObj th2 wi2 an2 li2)) th2 wi2 an2 li2 ki fi se tr cl si st nu wo fr := ⟨va_up_self _ _ _, (va_up_ne _ _ (by decide)).trans h.2.1, (va_up_ne _ _ (by decide)).trans h.2.2.1, (va_up_ne _ _ (by decide)).trans h.2.2.2.1, (va_up_ne _ _ (by decide)).trans h.2.2.2.2.1, (va_up_ne _ _ (by decide)).trans h.2.2.2.2.2.1, (va_up_ne _ _ (by decide)).trans h.2.2.2.2.2.2.1, (va_up_ne _ _ (by decide)).trans h.2.2.2.2.2.2.2.1, (va_up_ne _ _ (by decide)).trans h.2.2.2.2.2.2.2.2.1, (va_up_ne _ _ (by decide)).trans h.2.2.2.2.2.2.2.2.2.1, (va_up_ne _ _ (by decide)).trans h.2.2.2.2.2.2.2.2.2.2⟩
theorem MR.s_ki {x9 : Nat → Int32} (h : MR hp th wi an li ki fi se tr cl si st nu wo fr) : MR (va_up hp 55 (kI 10 x9)) th wi an li x9 fi se tr cl si st nu wo fr := ⟨(va_up_ne _ _ (by decide)).trans h.1, va_up_self _ _ _, (va_up_ne _ _ (by decide)).trans h.2.2.1, (va_up_ne _ _ (by decide)).trans h.2.2.2.1, (va_up_ne _ _ (by decide)).trans h.2.2.2.2.1, (va_up_ne _ _ (by decide)).trans h.2.2.2.2.2.1, (va_up_ne _ _ (by decide)).trans h.2.2.2.2.2.2.1, (va_up_ne _ _ (by decide)).trans h.2.2.2.2.2.2.2.1, (va_up_ne _ _ (by decide)).trans h.2.2.2.2.2.2.2.2.1, (va_up_ne _ _ (by decide)).trans h.2.2.2.2.2.2.2.2.2.1, (va_up_ne _ _ (by decide)).trans h.2.2.2.2.2.2.2.2.2.2⟩
theorem MR.s_fi {x9 : Nat → Int32} (h : MR hp th wi an li ki fi se tr cl si st nu wo fr) : MR (va_up hp 56 (kI 10 x9)) th wi an li ki x9 se tr cl si st nu wo fr := ⟨(va_up_ne _ _ (by decide)).trans h.1, (va_up_ne _ _ (by decide)).trans h.2.1, va_up_self _ _ _, (va_up_ne _ _ (by decide)).trans h.2.2.2.1, (va_up_ne _ _ (by decide)).trans h.2.2.2.2.1, (va_up_ne _ _ (by decide)).trans h.2.2.2.2.2.1, (va_up_ne _ _ (by decide)).trans h.2.2.2.2.2.2.1, (va_up_ne _ _ (by decide)).trans h.2.2.2.2.2.2.2.1, (va_up_ne _ _ (by decide)).trans h.2.2.2.2.2.2.2.2.1, (va_up_ne _ _ (by decide)).trans h.2.2.2.2.2.2.2.2.2.1, (va_up_ne _ _ (by decide)).trans h.2.2.2.2.2.2.2.2.2.2⟩
theorem MR.s_se {x9 : Nat → Int32} (h : MR hp th wi an li ki fi se tr cl si st nu wo fr) : MR (va_up hp 57 (kI 10 x9)) th wi an li ki fi x9 tr cl si st nu wo fr := ⟨(va_up_ne _ _ (by decide)).trans h.1, (va_up_ne _ _ (by decide)).trans h.2.1, (va_up_ne _ _ (by decide)).trans h.2.2.1, va_up_self _ _ _, (va_up_ne _ _ (by decide)).trans h.2.2.2.2.1, (va_up_ne _ _ (by decide)).trans h.2.2.2.2.2.1, (va_up_ne _ _ (by decide)).trans h.2.2.2.2.2.2.1, (va_up_ne _ _ (by decide)).trans h.2.2.2.2.2.2.2.1, (va_up_ne _ _ (by decide)).trans h.2.2.2.2.2.2.2.2.1, (va_up_ne _ _ (by decide)).trans h.2.2.2.2.2.2.2.2.2.1, (va_up_ne _ _ (by decide)).trans h.2.2.2.2.2.2.2.2.2.2⟩
theorem MR.s_tr {x9 : Nat → Int32} (h : MR hp th wi an li ki fi se tr cl si st nu wo fr) : MR (va_up hp 58 (kI 10 x9)) th wi an li ki fi se x9 cl si st nu wo fr := ⟨(va_up_ne _ _ (by decide)).trans h.1, (va_up_ne _ _ (by decide)).trans h.2.1, (va_up_ne _ _ (by decide)).trans h.2.2.1, (va_up_ne _ _ (by decide)).trans h.2.2.2.1, va_up_self _ _ _, (va_up_ne _ _ (by decide)).trans h.2.2.2.2.2.1, (va_up_ne _ _ (by decide)).trans h.2.2.2.2.2.2.1, (va_up_ne _ _ (by decide)).trans h.2.2.2.2.2.2.2.1, (va_up_ne _ _ (by decide)).trans h.2.2.2.2.2.2.2.2.1, (va_up_ne _ _ (by decide)).trans h.2.2.2.2.2.2.2.2.2.1, (va_up_ne _ _ (by decide)).trans h.2.2.2.2.2.2.2.2.2.2⟩
theorem MR.s_cl {x9 : Nat → Int64} (h : MR hp th wi an li ki fi se tr cl si st nu wo fr) : MR (va_up hp 59 (kJ 512 x9)) th wi an li ki fi se tr x9 si st nu wo fr := ⟨(va_up_ne _ _ (by decide)).trans h.1, (va_up_ne _ _ (by decide)).trans h.2.1, (va_up_ne _ _ (by decide)).trans h.2.2.1, (va_up_ne _ _ (by decide)).trans h.2.2.2.1, (va_up_ne _ _ (by decide)).trans h.2.2.2.2.1, va_up_self _ _ _, (va_up_ne _ _ (by decide)).trans h.2.2.2.2.2.2.1, (va_up_ne _ _ (by decide)).trans h.2.2.2.2.2.2.2.1, (va_up_ne _ _ (by decide)).trans h.2.2.2.2.2.2.2.2.1, (va_up_ne _ _ (by decide)).trans h.2.2.2.2.2.2.2.2.2.1, (va_up_ne _ _ (by decide)).trans h.2.2.2.2.2.2.2.2.2.2⟩
theorem MR.s_si {x9 : Nat → Nat} (h : MR hp th wi an li ki fi se tr cl si st nu wo fr) : MR (va_up hp 60 (kI 10 (fun k => nI (x9 k)))) th wi an li ki fi se tr cl x9 st nu wo fr := ⟨(va_up_ne _ _ (by decide)).trans h.1, (va_up_ne _ _ (by decide)).trans h.2.1, (va_up_ne _ _ (by decide)).trans h.2.2.1, (va_up_ne _ _ (by decide)).trans h.2.2.2.1, (va_up_ne _ _ (by decide)).trans h.2.2.2.2.1, (va_up_ne _ _ (by decide)).trans h.2.2.2.2.2.1, va_up_self _ _ _, (va_up_ne _ _ (by decide)).trans h.2.2.2.2.2.2.2.1, (va_up_ne _ _ (by decide)).trans h.2.2.2.2.2.2.2.2.1, (va_up_ne _ _ (by decide)).trans h.2.2.2.2.2.2.2.2.2.1, (va_up_ne _ _ (by decide)).trans h.2.2.2.2.2.2.2.2.2.2⟩
theorem MR.s_st {x9 : Nat → Nat} (h : MR hp th wi an li ki fi se tr cl si st nu wo fr) : MR (va_up hp 61 (kI 400 (fun k => nI (x9 k)))) th wi an li ki fi se tr cl si x9 nu wo fr := ⟨(va_up_ne _ _ (by decide)).trans h.1, (va_up_ne _ _ (by decide)).trans h.2.1, (va_up_ne _ _ (by decide)).trans h.2.2.1, (va_up_ne _ _ (by decide)).trans h.2.2.2.1, (va_up_ne _ _ (by decide)).trans h.2.2.2.2.1, (va_up_ne _ _ (by decide)).trans h.2.2.2.2.2.1, (va_up_ne _ _ (by decide)).trans h.2.2.2.2.2.2.1, va_up_self _ _ _, (va_up_ne _ _ (by decide)).trans h.2.2.2.2.2.2.2.2.1, (va_up_ne _ _ (by decide)).trans h.2.2.2.2.2.2.2.2.2.1, (va_up_ne _ _ (by decide)).trans h.2.2.2.2.2.2.2.2.2.2⟩
theorem MR.s_nu {x9 : Nat → Int64} (h : MR hp th wi an li ki fi se tr cl si st nu wo fr) : MR (va_up hp 62 (kJ 400 x9)) th wi an li ki fi se tr cl si st x9 wo fr := ⟨(va_up_ne _ _ (by decide)).trans h.1, (va_up_ne _ _ (by decide)).trans h.2.1, (va_up_ne _ _ (by decide)).trans h.2.2.1, (va_up_ne _ _ (by decide)).trans h.2.2.2.1, (va_up_ne _ _ (by decide)).trans h.2.2.2.2.1, (va_up_ne _ _ (by decide)).trans h.2.2.2.2.2.1, (va_up_ne _ _ (by decide)).trans h.2.2.2.2.2.2.1, (va_up_ne _ _ (by decide)).trans h.2.2.2.2.2.2.2.1, va_up_self _ _ _, (va_up_ne _ _ (by decide)).trans h.2.2.2.2.2.2.2.2.2.1, (va_up_ne _ _ (by decide)).trans h.2.2.2.2.2.2.2.2.2.2⟩
theorem MR.s_wo {x9 : Nat → Int64} (h : MR hp th wi an li ki fi se tr cl si st nu wo fr) : MR (va_up hp 63 (kJ 512 x9)) th wi an li ki fi se tr cl si st nu x9 fr := ⟨(va_up_ne _ _ (by decide)).trans h.1, (va_up_ne _ _ (by decide)).trans h.2.1, (va_up_ne _ _ (by decide)).trans h.2.2.1, (va_up_ne _ _ (by decide)).trans h.2.2.2.1, (va_up_ne _ _ (by decide)).trans h.2.2.2.2.1, (va_up_ne _ _ (by decide)).trans h.2.2.2.2.2.1, (va_up_ne _ _ (by decide)).trans h.2.2.2.2.2.2.1, (va_up_ne _ _ (by decide)).trans h.2.2.2.2.2.2.2.1, (va_up_ne _ _ (by decide)).trans h.2.2.2.2.2.2.2.2.1, va_up_self _ _ _, (va_up_ne _ _ (by decide)).trans h.2.2.2.2.2.2.2.2.2.2⟩
theorem MR.s_fr {x9 : Nat → Int64} (h : MR hp th wi an li ki fi se tr cl si st nu wo fr) : MR (va_up hp 64 (kJ 512 x9)) th wi an li ki fi se tr cl si st nu wo x9 := ⟨(va_up_ne _ _ (by decide)).trans h.1, (va_up_ne _ _ (by decide)).trans h.2.1, (va_up_ne _ _ (by decide)).trans h.2.2.1, (va_up_ne _ _ (by decide)).trans h.2.2.2.1, (va_up_ne _ _ (by decide)).trans h.2.2.2.2.1, (va_up_ne _ _ (by decide)).trans h.2.2.2.2.2.1, (va_up_ne _ _ (by decide)).trans h.2.2.2.2.2.2.1, (va_up_ne _ _ (by decide)).trans h.2.2.2.2.2.2.2.1, (va_up_ne _ _ (by decide)).trans h.2.2.2.2.2.2.2.2.1, (va_up_ne _ _ (by decide)).trans h.2.2.2.2.2.2.2.2.2.1, va_up_self _ _ _⟩
end
def litM (a p : Nat) : Nat := if a % 2 = 0 then (if a < 2 then 0 else p / 2 ^ (a / 2 - 1) % 2) else 1 - (if a < 2 then 0 else p / 2 ^ (a / 2 - 1) % 2)
set_option maxRecDepth 100000 in
theorem litM_eq : ∀ a : Nat, a < 20 → ∀ p : Nat, p < 512 → litM a p = litW a p := by decide +kernel
theorem smd : ∀ k : Nat, k < 32 → ((nI k &&& 31).toBitVec.smod 32).toNat = k := by decide +kernel
theorem shr_p {p k : Nat} (hp : p < 2 ^ 31) (hk : k < 32) : nI p >>> (nI k &&& 31) = nI (p / 2 ^ k) := pk_shrN hp _ k (smd k hk)
/-- what a wire of the reference's is -/
def mG (ki fi se tr : Nat → Int32) (w : Nat) (t : GT) : Prop := ki w = nI t.1 ∧ fi w = nI t.2.1 ∧ se w = nI t.2.2.1 ∧ (2 ≤ t.1 → tr w = nI t.2.2.2.1)
def MGs (n inp : Nat) (gt : Nat → GT) (ki fi se tr : Nat → Int32) : Prop := ∀ i, i < n → (inp &&& 2 ^ i = 0 → mG ki fi se tr (i + 1) (gt i)) ∧ (¬ inp &&& 2 ^ i = 0 → ki (i + 1) = cI (-1))
def gOut (t : GT) (p : Nat) : Nat := outc t.1 (litW t.2.1 p) (litW t.2.2.1 p) (litW t.2.2.2.1 p)
theorem gOut_lt {t : GT} {p : Nat} : gOut t p < 2 := outc_lt litW_lt litW_lt litW_lt
section
variable {l : Launch} {D : va_G} {dA ad sa : Nat → Nat} {L : List Nat} {hp : Nat → KE} {th wi an li : Nat} {ki fi se tr : Nat → Int32} {cl : Nat → Int64} {si st : Nat → Nat} {nu wo fr : Nat → Int64}
theorem c_X3_within (hW : KF ad L) (hp : Nat → KE) (v lo hi : Int32) : KM l yX3_within cX3_within 3 (some .boolean) (rmK 0 0 0) D dA ad sa L [.int v, .int lo, .int hi] hp (fun r hp' => r = some (.int (bI (decide (lo ≤ v) && decide (v ≤ hi)))) ∧ hp' = hp) := by
  refine KM.of rfl ok_X3_within (len_of rfl) hW.1.1 hW.1.2 ?_
  intro p e s m args below meth c A hC hN
  refine g_run hC 2 rfl ?_
  refine g_iclt (tgt := 14) hC rfl (by decide) (fun h1 => ?_) (fun h1 => ?_)
  · refine g_run hC 1 rfl ?_
    refine g_zret hC rfl rfl rfl ⟨?_, rfl⟩ (Nat.le_refl _) (Nat.le_refl _)
    rw [decide_eq_false (Int32.not_le.mpr h1)]; rfl
  · refine g_run hC 2 rfl ?_
    refine g_icgt (tgt := 14) hC rfl (by decide) (fun h2 => ?_) (fun h2 => ?_)
    · refine g_run hC 1 rfl ?_
      refine g_zret hC rfl rfl rfl ⟨?_, rfl⟩ (Nat.le_refl _) (Nat.le_refl _)
      rw [decide_eq_false (p := v ≤ hi) (Int32.not_le.mpr h2), Bool.and_false]; rfl
    · refine g_run hC 2 rfl ?_
      refine g_zret hC rfl rfl rfl ⟨?_, rfl⟩ (Nat.le_refl _) (Nat.le_refl _)
      rw [decide_eq_true (Int32.not_lt.mp h1), decide_eq_true (Int32.not_lt.mp h2)]; rfl
theorem c_X3_thrown (hW : KF ad L) (h : MR hp th wi an li ki fi se tr cl si st nu wo fr) : KM l yX3_thrown cX3_thrown 1 (some .int) (rmK 0 0 0) D dA ad sa L [.ref 54] hp (fun r hp' => r = some (.int (nI th)) ∧ hp' = hp) := by
  refine KM.of rfl ok_X3_thrown (len_of rfl) hW.1.1 hW.1.2 ?_
  intro p e s m args below meth c A hC hN
  refine g_run hC 1 rfl ?_
  refine g_get hC rfl F_X3_41 (hW.2 54 (by decide)) h.g100 rfl ?_
  exact g_iret hC rfl rfl ⟨rfl, rfl⟩ (Nat.le_refl _) (Nat.le_refl _)
theorem setM {n : Nat} {x : Int32} (hn : n ≤ 9) : (decide (nI 0 ≤ x) && decide (x ≤ nI (2 ^ n - 1))) = setB n x := by
  have h2 := p2_lt hn
  have h3 : 0 < 2 ^ n := Nat.two_pow_pos n
  unfold setB
  have e : x ≤ nI (2 ^ n - 1) ↔ x < nI (2 ^ n) := by
    rw [Int32.le_iff_toInt_le, Int32.lt_iff_toInt_lt, nI_toInt (by omega), nI_toInt (by omega)]
    omega
  rw [nI_0, decide_eq_decide.mpr e]
theorem c_X3_isSet (hW : KF ad L) (h : MR hp th wi an li ki fi se tr cl si st nu wo fr) (hn : wi ≤ 9) (x : Int32) : KM l yX3_isSet cX3_isSet 2 (some .boolean) (rmK 1 0 0) D dA ad sa L [.ref 54, .int x] hp (fun r hp' => r = some (.int (bI (setB wi x))) ∧ hp' = hp) := by
  refine KM.of rfl ok_X3_isSet (len_of rfl) hW.1.1 hW.1.2 ?_
  intro p e s m args below meth c A hC hN
  have h3 : 0 < 2 ^ wi := Nat.two_pow_pos wi
  refine g_run hC 4 rfl ?_
  refine g_get hC rfl F_X3_45 (hW.2 54 (by decide)) h.g100 rfl ?_
  refine g_run hC 3 rfl ?_
  refine g_top (nI (2 ^ wi - 1)) ?_ ?_
  · show cI 1 <<< (nI wi &&& 31) - nI 1 = _
    rw [shl_1 _ (by omega), pk_sub (by omega)]
  refine g_callS hC hN [.int x, .int (nI 0), .int (nI (2 ^ wi - 1))] (c_X3_within hW hp x _ _) rfl M_X3_48 rfl (len_of rfl) (by decide) (by decide) ?_
  rintro r hp1 ⟨rfl, rfl⟩
  rw [setM hn]
  exact g_zret hC (nar_b _) rfl rfl ⟨rfl, rfl⟩ (Nat.le_refl _) (Nat.le_refl _)
theorem c_X3_isLiteral (hW : KF ad L) (h : MR hp th wi an li ki fi se tr cl si st nu wo fr) (x : Int32) : KM l yX3_isLiteral cX3_isLiteral 2 (some .boolean) (rmK 1 0 0) D dA ad sa L [.ref 54, .int x] hp (fun r hp' => r = some (.int (bI (litB wi x))) ∧ hp' = hp) := by
  refine KM.of rfl ok_X3_isLiteral (len_of rfl) hW.1.1 hW.1.2 ?_
  intro p e s m args below meth c A hC hN
  refine g_run hC 4 rfl ?_
  refine g_get hC rfl F_X3_45 (hW.2 54 (by decide)) h.g100 rfl ?_
  refine g_run hC 3 rfl ?_
  refine g_top (nI (2 * wi + 1)) ?_ ?_
  · show nI 2 * nI wi + nI 1 = _
    rw [pk_mul, nI_add]
  refine g_callS hC hN [.int x, .int (nI 0), .int (nI (2 * wi + 1))] (c_X3_within hW hp x _ _) rfl M_X3_48 rfl (len_of rfl) (by decide) (by decide) ?_
  rintro r hp1 ⟨rfl, rfl⟩
  exact g_zret hC (nar_b _) rfl rfl ⟨rfl, rfl⟩ (Nat.le_refl _) (Nat.le_refl _)
theorem c_X3_wires (hW : KF ad L) (h : MR hp th wi an li ki fi se tr cl si st nu wo fr) : KM l yX3_wires cX3_wires 1 (some .int) (rmK 0 0 0) D dA ad sa L [.ref 54] hp (fun r hp' => r = some (.int (nI wi)) ∧ MR hp' 0 wi an li ki fi se tr cl si st nu wo fr ∧ FM hp hp') := by
  refine KM.of rfl ok_X3_wires (len_of rfl) hW.1.1 hW.1.2 ?_
  intro p e s m args below meth c A hC hN
  have h0 := hW.2 54 (by decide)
  refine g_run hC 2 rfl ?_
  refine g_putI hC rfl F_X3_41 h0 h.g100 (len_of rfl) rfl rfl ?_
  have h1 := h.obj (th2 := 0) (wi2 := wi) (an2 := an) (li2 := li)
  refine g_run hC 1 rfl ?_
  refine g_get hC rfl F_X3_45 h0 h1.g100 rfl ?_
  exact g_iret hC rfl rfl ⟨rfl, h1, FM.up (by decide) (by decide)⟩ (Nat.le_refl _) (Nat.le_refl _)
theorem c_X3_lines (hW : KF ad L) (h : MR hp th wi an li ki fi se tr cl si st nu wo fr) : KM l yX3_lines cX3_lines 1 (some .int) (rmK 0 0 0) D dA ad sa L [.ref 54] hp (fun r hp' => r = some (.int (nI li)) ∧ MR hp' 0 wi an li ki fi se tr cl si st nu wo fr ∧ FM hp hp') := by
  refine KM.of rfl ok_X3_lines (len_of rfl) hW.1.1 hW.1.2 ?_
  intro p e s m args below meth c A hC hN
  have h0 := hW.2 54 (by decide)
  refine g_run hC 2 rfl ?_
  refine g_putI hC rfl F_X3_41 h0 h.g100 (len_of rfl) rfl rfl ?_
  have h1 := h.obj (th2 := 0) (wi2 := wi) (an2 := an) (li2 := li)
  refine g_run hC 1 rfl ?_
  refine g_get hC rfl F_X3_52 h0 h1.g100 rfl ?_
  exact g_iret hC rfl rfl ⟨rfl, h1, FM.up (by decide) (by decide)⟩ (Nat.le_refl _) (Nat.le_refl _)
theorem c_X3_literal (hW : KF ad L) (hp : Nat → KE) (a p0 : Nat) (ha : a < 20) (hp0 : p0 < 512) : KM l yX3_literal cX3_literal 3 (some .int) (rmK 0 0 0) D dA ad sa L [.int (nI a), .int (nI p0)] hp (fun r hp' => r = some (.int (nI (litW a p0))) ∧ hp' = hp) := by
  refine KM.of rfl ok_X3_literal (len_of rfl) hW.1.1 hW.1.2 ?_
  intro p e s m args below meth c A hC hN
  rw [← litM_eq a ha p0 hp0]
  refine g_run hC 2 rfl ?_
  refine g_cut hp 18 [(0, .int (nI a)), (1, .int (nI p0))] [.int (nI (if a < 2 then 0 else p0 / 2 ^ (a / 2 - 1) % 2))] ?_ (fun t18 => ?_)
  · refine g_run hC 3 rfl ?_
    refine g_irem hC rfl (by decide) ?_
    refine g_top (nI (a % 2)) (pk_rem (by omega) (by decide) (by decide)) ?_
    refine g_ifne (tgt := 29) hC rfl (by decide) (fun h1 => ?_) (fun h1 => ?_)
    · have h2 : ¬ a % 2 = 0 := fun z => h1 (by rw [z]; rfl)
      refine g_run hC 3 rfl ?_
      refine g_top (nI (litM a p0)) ?_ (g_iret hC rfl rfl ⟨rfl, rfl⟩ (Nat.le_refl _) (Nat.le_refl _))
      unfold litM
      rw [if_neg h2]
      exact pk_sub (a := 1) (by split <;> omega)
    · have h2 : a % 2 = 0 := (nI_z (by omega)).mp h1
      refine g_run hC 2 rfl ?_
      refine g_iret hC rfl rfl ⟨?_, rfl⟩ (Nat.le_refl _) (Nat.le_refl _)
      unfold litM
      rw [if_pos h2]
  · refine g_icge (tgt := 9) hC rfl (by decide) (fun h1 => ?_) (fun h1 => ?_)
    · have h2 : 2 ≤ a := (nI_leI (a := 2) (b := a) (by decide) (by omega)).mp h1
      refine g_run hC 3 rfl ?_
      refine g_idiv hC rfl (by decide) ?_
      refine g_top (nI (a / 2)) (pk_div (by omega) (by decide) (by decide)) ?_
      refine g_run hC 5 rfl ?_
      refine g_top (nI (p0 / 2 ^ (a / 2 - 1) % 2)) ?_ ?_
      · show nI p0 >>> ((nI (a / 2) - nI 1) &&& 31) &&& nI 1 = _
        rw [pk_sub (by omega), shr_p (by omega) (by omega), nI_and, Nat.and_one_is_mod]
      · refine g_cv rfl ?_ (g_lvs t18 ⟨rfl, rfl, trivial⟩)
        rw [if_neg (by omega)]
    · have h2 : ¬ 2 ≤ a := fun z => h1 ((nI_leI (a := 2) (b := a) (by decide) (by omega)).mpr z)
      refine g_run hC 2 rfl ?_
      refine g_cv rfl ?_ (g_lvs t18 ⟨rfl, rfl, trivial⟩)
      rw [if_pos (by omega)]; rfl
theorem outc_mul : ∀ x : Nat, x < 2 → ∀ y : Nat, y < 2 → x * y = x &&& y ∧ (x + y) % 2 = x ^^^ y := by decide
theorem c_X3_made (hW : KF ad L) (h : MR hp th wi an li ki fi se tr cl si st nu wo fr) (w p0 : Nat) (t : GT) (hw : w < 10) (hG : mG ki fi se tr w t) (hk : t.1 < 4) (ha : t.2.1 < 20) (hb : t.2.2.1 < 20) (hc : t.2.2.2.1 < 20) (hp0 : p0 < 512) : KM l yX3_made cX3_made 6 (some .int) (rmK 1 0 0) D dA ad sa L [.ref 54, .int (nI w), .int (nI p0)] hp (fun r hp' => r = some (.int (nI (gOut t p0))) ∧ hp' = hp) := by
  refine KM.of rfl ok_X3_made (len_of rfl) hW.1.1 hW.1.2 ?_
  intro p e s m args below meth c A hC hN
  obtain ⟨kd, a, b, d, ts, tn⟩ := t
  obtain ⟨g1, g2, g3, g4⟩ := hG
  dsimp only at g1 g2 g3 g4 hk ha hb hc
  have h0 := hW.2 54 (by decide)
  refine g_run hC 1 rfl ?_
  refine g_get hC rfl F_X3_13 h0 h.g100 rfl ?_
  refine g_run hC 1 rfl ?_
  refine g_ild hC w rfl (hW.2 56 (by decide)) h.g102 rfl hw (by decide) ?_
  rw [g2]
  refine g_run hC 1 rfl ?_
  refine g_callS hC hN [.int (nI a), .int (nI p0)] (c_X3_literal hW hp a p0 ha hp0) rfl M_X3_59 rfl (len_of rfl) (by decide) (by decide) ?_
  rintro r hp1 ⟨rfl, rfl⟩
  refine g_run hC 2 rfl ?_
  refine g_get hC rfl F_X3_16 h0 h.g100 rfl ?_
  refine g_run hC 1 rfl ?_
  refine g_ild hC w rfl (hW.2 57 (by decide)) h.g103 rfl hw (by decide) ?_
  rw [g3]
  refine g_run hC 1 rfl ?_
  refine g_callS hC hN [.int (nI b), .int (nI p0)] (c_X3_literal hW hp1 b p0 hb hp0) rfl M_X3_59 rfl (len_of rfl) (by decide) (by decide) ?_
  rintro r hp2 ⟨rfl, rfl⟩
  refine g_run hC 2 rfl ?_
  refine g_get hC rfl F_X3_7 h0 h.g100 rfl ?_
  refine g_run hC 1 rfl ?_
  refine g_ild hC w rfl (hW.2 55 (by decide)) h.g101 rfl hw (by decide) ?_
  rw [g1]
  refine g_run hC 1 rfl ?_
  have hx := litW_lt (a := a) (o := p0)
  have hy := litW_lt (a := b) (o := p0)
  have hz := litW_lt (a := d) (o := p0)
  refine g_icge (tgt := 56) hC rfl (by decide) (fun h1 => ?_) (fun h1 => ?_)
  · have h2 : 2 ≤ kd := (nI_leI (a := 2) (b := kd) (by decide) (by omega)).mp h1
    refine g_run hC 1 rfl ?_
    refine g_get hC rfl F_X3_19 h0 h.g100 rfl ?_
    refine g_run hC 1 rfl ?_
    refine g_ild hC w rfl (hW.2 58 (by decide)) h.g104 rfl hw (by decide) ?_
    rw [g4 h2]
    refine g_run hC 1 rfl ?_
    refine g_callS hC hN [.int (nI d), .int (nI p0)] (c_X3_literal hW hp2 d p0 hc hp0) rfl M_X3_59 rfl (len_of rfl) (by decide) (by decide) ?_
    rintro r hp3 ⟨rfl, rfl⟩
    refine g_run hC 2 rfl ?_
    refine g_get hC rfl F_X3_7 h0 h.g100 rfl ?_
    refine g_run hC 1 rfl ?_
    refine g_ild hC w rfl (hW.2 55 (by decide)) h.g101 rfl hw (by decide) ?_
    rw [g1]
    refine g_run hC 1 rfl ?_
    rcases (show kd = 2 ∨ kd = 3 by omega) with rfl | rfl
    · refine g_icne (tgt := 93) hC rfl (by decide) (fun h3 => absurd rfl h3) (fun _ => ?_)
      refine g_run hC 2 rfl ?_
      refine g_icne (tgt := 88) hC rfl (by decide) (fun h3 => ?_) (fun h3 => ?_)
      · have h4 : ¬ litW a p0 = 1 := fun z => h3 (by rw [z]; rfl)
        refine g_run hC 2 rfl ?_
        refine g_iret hC rfl rfl ⟨?_, rfl⟩ (Nat.le_refl _) (Nat.le_refl _)
        simp [gOut, outc, h4]
      · have h4 : litW a p0 = 1 := (nI_eq (b := 1) (by omega) (by decide)).mp h3
        refine g_run hC 2 rfl ?_
        refine g_iret hC rfl rfl ⟨?_, rfl⟩ (Nat.le_refl _) (Nat.le_refl _)
        simp [gOut, outc, h4]
    · refine g_icne (tgt := 93) hC rfl (by decide) (fun _ => ?_) (fun h3 => absurd h3 (by decide))
      refine g_run hC 6 rfl ?_
      have e1 : nI (litW a p0) + nI (litW b p0) + nI (litW d p0) = nI (litW a p0 + litW b p0 + litW d p0) := by rw [nI_add, nI_add]
      refine g_icle (tgt := 108) hC rfl (by decide) (fun h3 => ?_) (fun h3 => ?_)
      · have h5 : nI (litW a p0 + litW b p0 + litW d p0) ≤ nI 1 := by rw [← e1]; exact h3
        have h4 := (nI_leI (b := 1) (by omega) (by decide)).mp h5
        refine g_run hC 1 rfl ?_
        refine g_iret hC rfl rfl ⟨?_, rfl⟩ (Nat.le_refl _) (Nat.le_refl _)
        have h6 : ¬ 2 ≤ litW a p0 + litW b p0 + litW d p0 := by omega
        simp [gOut, outc, h6]; rfl
      · have h5 : ¬ nI (litW a p0 + litW b p0 + litW d p0) ≤ nI 1 := by rw [← e1]; exact h3
        have h4 : ¬ litW a p0 + litW b p0 + litW d p0 ≤ 1 := fun z => h5 ((nI_leI (b := 1) (by omega) (by decide)).mpr z)
        refine g_run hC 2 rfl ?_
        refine g_iret hC rfl rfl ⟨?_, rfl⟩ (Nat.le_refl _) (Nat.le_refl _)
        have h6 : 2 ≤ litW a p0 + litW b p0 + litW d p0 := by omega
        simp [gOut, outc, h6]; rfl
  · have h2 : ¬ 2 ≤ kd := fun z => h1 ((nI_leI (a := 2) (b := kd) (by decide) (by omega)).mpr z)
    obtain ⟨m1, m2⟩ := outc_mul _ hx _ hy
    refine g_run hC 1 rfl ?_
    refine g_get hC rfl F_X3_7 h0 h.g100 rfl ?_
    refine g_run hC 1 rfl ?_
    refine g_ild hC w rfl (hW.2 55 (by decide)) h.g101 rfl hw (by decide) ?_
    rw [g1]
    rcases (show kd = 0 ∨ kd = 1 by omega) with rfl | rfl
    · refine g_ifne (tgt := 49) hC rfl (by decide) (fun h3 => absurd rfl h3) (fun _ => ?_)
      refine g_run hC 4 rfl ?_
      refine g_top (nI (gOut (0, a, b, d, ts, tn) p0)) ?_ (g_iret hC rfl rfl ⟨rfl, rfl⟩ (Nat.le_refl _) (Nat.le_refl _))
      show nI _ * nI _ = _
      rw [pk_mul, m1]; rfl
    · refine g_ifne (tgt := 49) hC rfl (by decide) (fun _ => ?_) (fun h3 => absurd h3 (by decide))
      refine g_run hC 4 rfl ?_
      refine g_irem hC rfl (by decide) ?_
      refine g_top (nI (gOut (1, a, b, d, ts, tn) p0)) ?_ (g_iret hC rfl rfl ⟨rfl, rfl⟩ (Nat.le_refl _) (Nat.le_refl _))
      show (nI _ + nI _) - (nI _ + nI _) / nI 2 * nI 2 = _
      rw [nI_add, pk_rem (by omega) (by decide) (by decide), m2]; rfl
end
