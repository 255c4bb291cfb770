theorem nI_and (a b : Nat) : nI a &&& nI b = nI (a &&& b) := by
  apply Int32.toBitVec_inj.1
  show BitVec.ofNat 32 a &&& BitVec.ofNat 32 b = BitVec.ofNat 32 (a &&& b)
  apply BitVec.eq_of_getLsbD_eq
  intro i hi
  simp [hi]
theorem nI_or (a b : Nat) : nI a ||| nI b = nI (a ||| b) := by
  apply Int32.toBitVec_inj.1
  show BitVec.ofNat 32 a ||| BitVec.ofNat 32 b = BitVec.ofNat 32 (a ||| b)
  apply BitVec.eq_of_getLsbD_eq
  intro i hi
  simp [hi]
theorem nI_xor (a b : Nat) : nI a ^^^ nI b = nI (a ^^^ b) := by
  apply Int32.toBitVec_inj.1
  show BitVec.ofNat 32 a ^^^ BitVec.ofNat 32 b = BitVec.ofNat 32 (a ^^^ b)
  apply BitVec.eq_of_getLsbD_eq
  intro i hi
  simp [hi]
theorem nI_z {n : Nat} (h : n < 2 ^ 31) : nI n = 0 ↔ n = 0 := by
  have := nI_eq (a := n) (b := 0) h (by decide)
  rw [nI_0] at this
  exact this
theorem shl_1 : ∀ w : Nat, w < 31 → cI 1 <<< (nI w &&& 31) = nI (2 ^ w) := by decide +kernel
theorem shr_n : ∀ t : Nat, t < 8 → ∀ n : Nat, n < 3 → nI t >>> (nI n &&& 31) = nI (t / 2 ^ n) := by decide +kernel
def wbit (a : Nat) : Nat := if a < 2 then 0 else 2 ^ (a / 2 - 1)
def litF (a v : Nat) : Nat := if a < 2 then a else v ^^^ (a % 2)
def litW (a o : Nat) : Nat := litF a (if o &&& wbit a = 0 then 0 else 1)
def outc (kd x y z : Nat) : Nat := if kd = 0 then x &&& y else if kd = 1 then x ^^^ y else if kd = 2 then (if x = 1 then y else z) else if 2 ≤ x + y + z then 1 else 0
theorem bit_xor {v a : Nat} (h : v < 2) : v ^^^ (a % 2) < 2 := Nat.xor_lt_two_pow (n := 1) h (Nat.mod_lt _ (by decide))
theorem litF_lt {a v : Nat} (h : v < 2) : litF a v < 2 := by
  unfold litF
  split
  · assumption
  · exact bit_xor h
theorem outc_lt {kd x y z : Nat} (hx : x < 2) (hy : y < 2) (hz : z < 2) : outc kd x y z < 2 := by
  unfold outc
  split
  · exact Nat.lt_of_le_of_lt Nat.and_le_left hx
  · split
    · exact Nat.xor_lt_two_pow (n := 1) hx hy
    · split
      · split <;> assumption
      · split <;> decide
theorem wbit_lt {a : Nat} (h : a < 20) : wbit a < 512 := by
  have : ∀ a, a < 20 → wbit a < 512 := by decide
  exact this a h
section
variable {p : Program} {l : Launch} {e : Env} {R : Room} {s : State} {m : MethodId} {args : Array Value} {below : List Frame} {meth : Method} {c : Code} {D : va_G} {dA ad sa : Nat → Nat} {L : List Nat} {A : Nat → Prop} {nL cells slots : Nat} {Q : State → Prop} {hp : Nat → KE} {own : String} {cc : ByteArray} {ret : Option FieldType} {tb : List (Nat × Instr × Nat)}
theorem g_tsIn (hC : CX p s m args meth c own cc nL ret tb D dA ad L A) {pc nx tgt k : Nat} {d lo hi off : Int} {offs : Array Int} {lv : List (Nat × Value)} {st : List Value} (hf : fd tb pc = some (.tableswitch d lo hi offs, nx)) (hk : k < 2 ^ 31) (h1 : ¬ (k : Int) < lo) (h2 : ¬ hi < (k : Int)) (ho : offs[((k : Int) - lo).toNat]? = some off) (ht : (pc : Int) + off = (tgt : Int))
    (kk : G p l e R s m args below meth c D dA ad L A nL cells slots Q hp tgt lv st) : G p l e R s m args below meth c D dA ad L A nL cells slots Q hp pc lv (.int (nI k) :: st) := by
  obtain ⟨⟨hx, hb, -, -, -⟩, -, -, htb, -⟩ := hC
  obtain ⟨n, hd, -, -⟩ := fd_ok htb hf
  exact fun H locs ls hP hS hl => lv_tableIn hx hb hd (by rw [nI_toInt hk]; exact h1) (by rw [nI_toInt hk]; exact h2) (by rw [nI_toInt hk]; exact ho) ht (kk H locs ls hP hS hl)
theorem g_tsOut (hC : CX p s m args meth c own cc nL ret tb D dA ad L A) {pc nx tgt k : Nat} {d lo hi : Int} {offs : Array Int} {lv : List (Nat × Value)} {st : List Value} (hf : fd tb pc = some (.tableswitch d lo hi offs, nx)) (hk : k < 2 ^ 31) (h1 : (k : Int) < lo ∨ hi < (k : Int)) (ht : (pc : Int) + d = (tgt : Int))
    (kk : G p l e R s m args below meth c D dA ad L A nL cells slots Q hp tgt lv st) : G p l e R s m args below meth c D dA ad L A nL cells slots Q hp pc lv (.int (nI k) :: st) := by
  obtain ⟨⟨hx, hb, -, -, -⟩, -, -, htb, -⟩ := hC
  obtain ⟨n, hd, -, -⟩ := fd_ok htb hf
  exact fun H locs ls hP hS hl => lv_tableOut hx hb hd (by rw [nI_toInt hk]; exact h1) ht (kk H locs ls hP hS hl)
end
section
variable {l : Launch} {D : va_G} {dA ad sa : Nat → Nat} {L : List Nat}
theorem c_X2_bitOf (hW : KF ad L) (hp : Nat → KE) (w : Nat) (h0 : 0 < w) (h1 : w < 32) : KM l yX2_bitOf cX2_bitOf 1 (some .int) (rmK 0 0 0) D dA ad sa L [.int (nI w)] hp (fun r hp' => r = some (.int (nI (2 ^ (w - 1)))) ∧ hp' = hp) := by
  refine KM.of rfl ok_X2_bitOf (len_of rfl) hW.1.1 hW.1.2 ?_
  intro p e s m args below meth c A hC hN
  refine g_run hC 5 rfl ?_
  refine g_top (nI (2 ^ (w - 1))) ?_ (g_iret hC rfl rfl ⟨rfl, rfl⟩ (Nat.le_refl _) (Nat.le_refl _))
  show cI 1 <<< ((nI w - nI 1) &&& 31) = _
  rw [pk_sub (by omega), shl_1 _ (by omega)]
theorem c_X0_wireBit (hW : KF ad L) (hp : Nat → KE) (a : Nat) (h1 : a < 20) : KM l yX0_wireBit cX0_wireBit 1 (some .int) (rmK 1 0 0) D dA ad sa L [.int (nI a)] hp (fun r hp' => r = some (.int (nI (wbit a))) ∧ hp' = hp) := by
  refine KM.of rfl ok_X0_wireBit (len_of rfl) hW.1.1 hW.1.2 ?_
  intro p e s m args below meth c A hC hN
  refine g_run hC 2 rfl ?_
  refine g_icge (tgt := 9) hC rfl (by decide) (fun h => ?_) (fun h => ?_)
  · have h2 : 2 ≤ a := (nI_leI (a := 2) (b := a) (by decide) (by omega)).mp h
    refine g_run hC 2 rfl ?_
    refine g_idiv hC rfl (by decide) ?_
    refine g_top (nI (a / 2)) (pk_div (by omega) (by decide) (by decide)) ?_
    refine g_callN hC hN [.int (nI (a / 2))] (c_X2_bitOf hW hp (a / 2) (by omega) (by omega)) rfl M_X0_61 rfl (len_of rfl) (by decide) (by decide) ?_
    rintro r hp' ⟨rfl, rfl⟩
    exact g_iret hC rfl rfl ⟨by unfold wbit; rw [if_neg (by omega)], rfl⟩ (Nat.le_refl _) (Nat.le_refl _)
  · have h2 : ¬ 2 ≤ a := fun z => h ((nI_leI (a := 2) (b := a) (by decide) (by omega)).mpr z)
    refine g_run hC 2 rfl ?_
    exact g_iret hC rfl rfl ⟨by unfold wbit; rw [if_pos (by omega)]; rfl, rfl⟩ (Nat.le_refl _) (Nat.le_refl _)
theorem c_X0_literalFor (hW : KF ad L) (hp : Nat → KE) (a v : Nat) (h1 : a < 20) : KM l yX0_literalFor cX0_literalFor 2 (some .int) (rmK 0 0 0) D dA ad sa L [.int (nI a), .int (nI v)] hp (fun r hp' => r = some (.int (nI (litF a v))) ∧ hp' = hp) := by
  refine KM.of rfl ok_X0_literalFor (len_of rfl) hW.1.1 hW.1.2 ?_
  intro p e s m args below meth c A hC hN
  refine g_run hC 2 rfl ?_
  refine g_icge (tgt := 9) hC rfl (by decide) (fun h => ?_) (fun h => ?_)
  · have h2 : 2 ≤ a := (nI_leI (a := 2) (b := a) (by decide) (by omega)).mp h
    refine g_run hC 5 rfl ?_
    refine g_top (nI (litF a v)) ?_ (g_iret hC rfl rfl ⟨rfl, rfl⟩ (Nat.le_refl _) (Nat.le_refl _))
    show nI v ^^^ (nI a &&& nI 1) = _
    rw [nI_and, nI_xor, Nat.and_one_is_mod]
    unfold litF
    rw [if_neg (by omega)]
  · have h2 : ¬ 2 ≤ a := fun z => h ((nI_leI (a := 2) (b := a) (by decide) (by omega)).mpr z)
    refine g_run hC 2 rfl ?_
    exact g_iret hC rfl rfl ⟨by unfold litF; rw [if_pos (by omega)], rfl⟩ (Nat.le_refl _) (Nat.le_refl _)
theorem c_X0_literalWhere (hW : KF ad L) (hp : Nat → KE) (a o : Nat) (h1 : a < 20) (ho : o < 512) : KM l yX0_literalWhere cX0_literalWhere 2 (some .int) (rmK 2 0 0) D dA ad sa L [.int (nI a), .int (nI o)] hp (fun r hp' => r = some (.int (nI (litW a o))) ∧ hp' = hp) := by
  refine KM.of rfl ok_X0_literalWhere (len_of rfl) hW.1.1 hW.1.2 ?_
  intro p e s m args below meth c A hC hN
  refine g_run hC 3 rfl ?_
  refine g_callS hC hN [.int (nI a)] (c_X0_wireBit hW hp a h1) rfl M_X0_54 rfl (len_of rfl) (by decide) (by decide) ?_
  rintro r hp' ⟨rfl, rfl⟩
  refine g_run hC 1 rfl ?_
  refine g_top (nI (o &&& wbit a)) (nI_and _ _) ?_
  have hz := nI_z (n := o &&& wbit a) (Nat.lt_of_le_of_lt Nat.and_le_left (by omega))
  refine g_cut hp' 15 [] [.int (nI (if o &&& wbit a = 0 then 0 else 1)), .int (nI a)] ?_ (fun tail => ?_)
  · refine g_callS hC hN [.int (nI a), .int (nI _)] (c_X0_literalFor hW hp' a _ h1) rfl M_X0_58 rfl (len_of rfl) (by decide) (by decide) ?_
    rintro r hp2 ⟨rfl, rfl⟩
    exact g_iret hC rfl rfl ⟨rfl, rfl⟩ (Nat.le_refl _) (Nat.le_refl _)
  · refine g_ifne (tgt := 14) hC rfl (by decide) (fun h => ?_) (fun h => ?_)
    · refine g_run hC 1 rfl ?_
      refine g_cv rfl ?_ (g_lvs tail trivial)
      rw [if_neg (fun z => h (hz.mpr z))]; rfl
    · refine g_run hC 2 rfl ?_
      refine g_cv rfl ?_ (g_lvs tail trivial)
      rw [if_pos (hz.mp h)]; rfl
theorem c_X0_outcome (hW : KF ad L) (hp : Nat → KE) (g kd a b c0 : Nat) (ts : Nat → Nat) (tn : Nat → Int64) (x y z : Nat) (hg : g < 66) (hG : GateAt hp g kd a b c0 ts tn) (hk : kd < 4) (hx : x < 2) (hy : y < 2) (hz : z < 2) : KM l yX0_outcome cX0_outcome 4 (some .int) (rmK 0 0 0) D dA ad sa L [.ref g, .int (nI x), .int (nI y), .int (nI z)] hp (fun r hp' => r = some (.int (nI (outc kd x y z))) ∧ hp' = hp) := by
  refine KM.of rfl ok_X0_outcome (len_of rfl) hW.1.1 hW.1.2 ?_
  intro p e s m args below meth c A hC hN
  refine g_run hC 1 rfl ?_
  refine g_get hC rfl F_X0_19 (hW.2 g hg) hG.1 rfl ?_
  rcases (show kd = 0 ∨ kd = 1 ∨ kd = 2 ∨ kd = 3 by omega) with rfl | rfl | rfl | rfl
  · refine g_tsIn (tgt := 32) hC rfl (by decide) (by decide) (by decide) rfl (by decide) ?_
    refine g_run hC 3 rfl ?_
    exact g_top (nI (x &&& y)) (nI_and _ _) (g_iret hC rfl rfl ⟨rfl, rfl⟩ (Nat.le_refl _) (Nat.le_refl _))
  · refine g_tsIn (tgt := 36) hC rfl (by decide) (by decide) (by decide) rfl (by decide) ?_
    refine g_run hC 3 rfl ?_
    exact g_top (nI (x ^^^ y)) (nI_xor _ _) (g_iret hC rfl rfl ⟨rfl, rfl⟩ (Nat.le_refl _) (Nat.le_refl _))
  · refine g_tsIn (tgt := 40) hC rfl (by decide) (by decide) (by decide) rfl (by decide) ?_
    refine g_run hC 2 rfl ?_
    refine g_icne (tgt := 49) hC rfl (by decide) (fun h => ?_) (fun h => ?_)
    · refine g_run hC 1 rfl ?_
      refine g_iret hC rfl rfl ⟨?_, rfl⟩ (Nat.le_refl _) (Nat.le_refl _)
      have : ¬ x = 1 := fun q => h ((nI_eq (a := x) (b := 1) (by omega) (by decide)).mpr q)
      simp [outc, this]
    · refine g_run hC 2 rfl ?_
      refine g_iret hC rfl rfl ⟨?_, rfl⟩ (Nat.le_refl _) (Nat.le_refl _)
      have : x = 1 := (nI_eq (a := x) (b := 1) (by omega) (by decide)).mp h
      simp [outc, this]
  · refine g_tsOut (tgt := 51) hC rfl (by decide) (Or.inr (by decide)) (by decide) ?_
    refine g_run hC 6 rfl ?_
    have e1 : nI x + nI y + nI z = nI (x + y + z) := by rw [nI_add, nI_add]
    refine g_iclt (tgt := 64) hC rfl (by decide) (fun h => ?_) (fun h => ?_)
    · refine g_run hC 1 rfl ?_
      refine g_iret hC rfl rfl ⟨?_, rfl⟩ (Nat.le_refl _) (Nat.le_refl _)
      have h1 : nI (x + y + z) < nI 2 := by rw [← e1]; exact h
      have h2 : x + y + z < 2 := (nI_ltI (by omega) (by decide)).mp h1
      have h3 : ¬ 2 ≤ x + y + z := by omega
      simp [outc, h3]; rfl
    · refine g_run hC 2 rfl ?_
      refine g_iret hC rfl rfl ⟨?_, rfl⟩ (Nat.le_refl _) (Nat.le_refl _)
      have h1 : ¬ nI (x + y + z) < nI 2 := by rw [← e1]; exact h
      have h2 : ¬ x + y + z < 2 := fun q => h1 ((nI_ltI (by omega) (by decide)).mpr q)
      have h3 : 2 ≤ x + y + z := by omega
      simp [outc, h3]; rfl
theorem litW_lt {a o : Nat} : litW a o < 2 := litF_lt (by split <;> decide)
theorem c_X0_valueWhere (hW : KF ad L) (hp : Nat → KE) (g kd a b c0 : Nat) (ts : Nat → Nat) (tn : Nat → Int64) (o : Nat) (hg : g < 66) (hG : GateAt hp g kd a b c0 ts tn) (hk : kd < 4) (ha : a < 20) (hb : b < 20) (hc : c0 < 20) (ho : o < 512) : KM l yX0_valueWhere cX0_valueWhere 2 (some .int) (rmK 3 0 0) D dA ad sa L [.ref g, .int (nI o)] hp (fun r hp' => r = some (.int (nI (outc kd (litW a o) (litW b o) (litW c0 o)))) ∧ hp' = hp) := by
  refine KM.of rfl ok_X0_valueWhere (len_of rfl) hW.1.1 hW.1.2 ?_
  intro p e s m args below meth c A hC hN
  have gL := hW.2 g hg
  refine g_run hC 2 rfl ?_
  refine g_get hC rfl F_X0_23 gL hG.1 rfl ?_
  refine g_run hC 1 rfl ?_
  refine g_callS hC hN [.int (nI a), .int (nI o)] (c_X0_literalWhere hW hp a o ha ho) rfl M_X0_40 rfl (len_of rfl) (by decide) (by decide) ?_
  rintro r hp' ⟨rfl, rfl⟩
  refine g_run hC 1 rfl ?_
  refine g_get hC rfl F_X0_26 gL hG.1 rfl ?_
  refine g_run hC 1 rfl ?_
  refine g_callS hC hN [.int (nI b), .int (nI o)] (c_X0_literalWhere hW hp' b o hb ho) rfl M_X0_40 rfl (len_of rfl) (by decide) (by decide) ?_
  rintro r hp2 ⟨rfl, rfl⟩
  refine g_run hC 1 rfl ?_
  refine g_get hC rfl F_X0_29 gL hG.1 rfl ?_
  refine g_run hC 1 rfl ?_
  refine g_callS hC hN [.int (nI c0), .int (nI o)] (c_X0_literalWhere hW hp2 c0 o hc ho) rfl M_X0_40 rfl (len_of rfl) (by decide) (by decide) ?_
  rintro r hp3 ⟨rfl, rfl⟩
  refine g_callV hC hN [.int (nI (litW a o)), .int (nI (litW b o)), .int (nI (litW c0 o))] (c_X0_outcome hW hp3 g kd a b c0 ts tn _ _ _ hg hG hk litW_lt litW_lt litW_lt) rfl M_X0_44 gL hG.1 rfl rfl (len_of rfl) (by decide) (by decide) ?_
  rintro r hp4 ⟨rfl, rfl⟩
  exact g_iret hC rfl rfl ⟨rfl, rfl⟩ (Nat.le_refl _) (Nat.le_refl _)
end
