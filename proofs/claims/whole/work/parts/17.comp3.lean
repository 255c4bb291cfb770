def prvN (inp : Nat) (gt : Nat → GT) : Nat → Nat → (Nat → Nat → Int64) → Bool × Nat × (Nat → Nat → Int64)
  | 0, last, pr => (true, last, pr)
  | w + 1, last, pr => if inp &&& 2 ^ w = 0 then
      (if cnt (elimC (pr last) (2 ^ w) (gt w).2.2.2.2.1 (gt w).2.2.2.2.2) ≤ 40 then prvN inp gt w (last + 1) (va_up pr (last + 1) (elimC (pr last) (2 ^ w) (gt w).2.2.2.2.1 (gt w).2.2.2.2.2))
       else (false, last + 1, va_up pr (last + 1) (elimC (pr last) (2 ^ w) (gt w).2.2.2.2.1 (gt w).2.2.2.2.2)))
    else prvN inp gt w last pr
def chkN (inp : Nat) (gt : Nat → GT) (pr : Nat → Nat → Int64) : Nat → Nat → Option Nat
  | 0, _ => none
  | w + 1, line => if inp &&& 2 ^ w = 0 then (if eqR (pr (line + 1)) (elimC (pr line) (2 ^ w) (gt w).2.2.2.2.1 (gt w).2.2.2.2.2) = true then chkN inp gt pr w (line + 1) else some (line + 1)) else chkN inp gt pr w line
theorem gV_lt {a b c t : Nat} (ha : a < 20) (hb : b < 20) (hc : c < 20) : gV a b c t < 512 := by
  have h : ∀ x y, y < 512 → (x % 2) * y < 512 := fun x y hy => by
    rcases (show x % 2 = 0 ∨ x % 2 = 1 by omega) with e | e <;> rw [e] <;> omega
  unfold gV
  exact or_lt9 (or_lt9 (h _ _ (wbit_lt ha)) (h _ _ (wbit_lt hb))) (h _ _ (wbit_lt hc))
theorem gGood.lt {i : Nat} {t : GT} (h : gGood i t) (hi : i < 9) : ∀ j, j < 8 → t.2.2.2.2.1 j < 512 := fun j _ => by
  obtain ⟨-, h1, h2, h3, h4, -⟩ := h
  rw [h4]
  exact gV_lt (by omega) (by omega) (by omega)
section
variable {l : Launch} {D : va_G} {dA ad sa : Nat → Nat} {L : List Nat} {hp : Nat → KE} {n inp an lc : Nat} {cl ex : Nat → Int64} {pr : Nat → Nat → Int64} {gt : Nat → GT}
theorem c_X2_add (hW : KF ad L) (hfl : l.stackTraces = false) (h : XR hp n inp an lc cl ex pr gt) (hn : n ≤ 9) (han : an ≤ 40) (x y : Int32) : KX l yX2_add cX2_add 3 (some .int) (rmK 7 1 6) D dA ad sa L [.ref 0, .int x, .int y] hp
    (fun r hp' => ∃ k, k < 2 ^ n ∧ x = nI k ∧ an < 40 ∧ r = some (.int (nI (an + 1))) ∧ XR hp' n inp (an + 1) 0 (inc cl k y.toInt64) ex pr gt ∧ FX hp hp')
    (fun E hp' => ((setB n x = false ∧ E = IAE) ∨ (setB n x = true ∧ an = 40 ∧ E = ISE)) ∧ hp' = hp) := by
  refine KX.of rfl ok_X2_add (len_of rfl) hW.1.1 hW.1.2 ?_
  intro p e s m args below meth c A hC hN hE
  have h0 := hW.2 0 (by decide)
  have h2 := p2_lt hn
  refine g_run hC 2 rfl ?_
  refine g_callV hC hN [.int x] (c_X2_isSet hW h hn x) rfl M_X2_63 h0 h.1 rfl rfl (len_of rfl) (by decide) (by decide) ?_
  rintro r hp1 ⟨rfl, rfl⟩
  cases hb : setB n x with
  | false =>
    refine g_ifne (tgt := 18) hC rfl (by decide) (fun h1 => absurd rfl h1) (fun _ => ?_)
    exact g_throw hC hN hE hfl T_52_66_56 rfl rfl rfl rfl rfl (by decide) (by decide) (by decide) ⟨Or.inl ⟨rfl, rfl⟩, rfl⟩
  | true =>
    obtain ⟨k, hk, rfl⟩ := (setB_iff hn).mp hb
    refine g_ifne (tgt := 18) hC rfl (by decide) (fun _ => ?_) (fun h1 => absurd h1 (by decide))
    refine g_run hC 1 rfl ?_
    refine g_get hC rfl F_X2_68 h0 h.1 rfl ?_
    refine g_run hC 1 rfl ?_
    refine g_iclt (tgt := 37) hC rfl (by decide) (fun h1 => ?_) (fun h1 => ?_)
    · have h3 : an < 40 := (nI_ltI (a := an) (b := 40) (by omega) (by decide)).mp h1
      refine g_run hC 1 rfl ?_
      refine g_get hC rfl F_X2_18 h0 h.1 rfl ?_
      refine g_run hC 3 rfl ?_
      refine g_callV hC hN [.int (nI k), .long y.toInt64] (c_X1_increase hW hp1 2 k cl _ (by decide) h.2.2.2.1 (by omega)) rfl M_X2_76 (hW.2 2 (by decide)) h.2.2.2.1.1 rfl rfl (len_of rfl) (by decide) (by decide) ?_
      rintro r hp2 ⟨rfl, rfl⟩
      have h4 := h.setcl (r := va_up cl k (cl k + y.toInt64))
      refine g_run hC 3 rfl ?_
      refine g_get hC rfl F_X2_68 h0 h4.1 rfl ?_
      refine g_run hC 2 rfl ?_
      refine g_top (nI (an + 1)) (nI_s an) ?_
      refine g_putI hC rfl F_X2_68 h0 h4.1 (len_of rfl) rfl rfl ?_
      have h5 := h4.obj (n2 := n) (inp2 := inp) (an2 := an + 1) (lc2 := lc)
      refine g_run hC 1 rfl ?_
      refine g_callV hC hN [] (c_X2_dropProof hW h5) rfl M_X2_80 h0 h5.1 rfl rfl (len_of rfl) (by decide) (by decide) ?_
      rintro r hp3 ⟨rfl, h6, h7⟩
      refine g_run hC 1 rfl ?_
      refine g_get hC rfl F_X2_68 h0 h6.1 rfl ?_
      exact gx_iret hC rfl rfl ⟨k, hk, rfl, h3, rfl, h6, ((FX.setP (by decide)).tr (FX.up (by decide))).tr h7⟩ (by decide) (by decide)
    · have h3 : ¬ an < 40 := fun z => h1 ((nI_ltI (a := an) (b := 40) (by omega) (by decide)).mpr z)
      exact g_throw hC hN hE hfl T_71_73_75 rfl rfl rfl rfl rfl (by decide) (by decide) (by decide) ⟨Or.inr ⟨rfl, by omega, rfl⟩, rfl⟩
/-- a set of inputs alone -/
theorem inpB_iff {inp : Nat} (hi : inp < 512) {x : Int32} : x &&& (nI inp ^^^ cI (-1)) = 0 ↔ ∃ o, o < 512 ∧ o &&& inp = o ∧ x = nI o := by
  constructor
  · intro h
    have e1 : x &&& nI inp = x := by
      rw [← Int32.toBitVec_inj] at h ⊢
      have h9 : x.toBitVec &&& ((nI inp).toBitVec ^^^ BitVec.allOnes 32) = 0#32 := h
      show x.toBitVec &&& (nI inp).toBitVec = x.toBitVec
      generalize x.toBitVec = a at h9 ⊢
      generalize (nI inp).toBitVec = b at h9 ⊢
      apply BitVec.eq_of_getLsbD_eq
      intro j hj
      have h1 := congrArg (fun z => z.getLsbD j) h9
      simp only [BitVec.getLsbD_and, BitVec.getLsbD_xor, BitVec.getLsbD_allOnes, decide_eq_true hj, BitVec.getLsbD_zero] at h1 ⊢
      revert h1
      cases a.getLsbD j <;> cases b.getLsbD j <;> decide
    obtain ⟨k, hk, rfl⟩ : ∃ k, k < 2 ^ 32 ∧ x = nI k := ⟨x.toBitVec.toNat, x.toBitVec.isLt, by
      apply Int32.toBitVec_inj.1
      show x.toBitVec = BitVec.ofNat 32 x.toBitVec.toNat
      rw [BitVec.ofNat_toNat]; simp⟩
    rw [nI_and] at e1
    have h3 : k &&& inp < 512 := Nat.lt_of_le_of_lt Nat.and_le_right hi
    refine ⟨k &&& inp, h3, ?_, e1.symm⟩
    rw [Nat.and_assoc, Nat.and_self]
  · rintro ⟨o, ho, h1, rfl⟩
    exact (andnot o inp ho).mpr h1
theorem c_X2_simulate (hW : KF ad L) (hfl : l.stackTraces = false) (h : XR hp n inp an lc cl ex pr gt) (hg : XG n inp gt) (x : Int32) : KX l yX2_simulate cX2_simulate 2 (some .int) (rmK 7 1 6) D dA ad sa L [.ref 0, .int x] hp
    (fun r hp' => ∃ o, o < 512 ∧ o &&& inp = o ∧ x = nI o ∧ r = some (.int (nI (simN inp gt o n))) ∧ hp' = hp)
    (fun E hp' => ¬ (∃ o, o < 512 ∧ o &&& inp = o ∧ x = nI o) ∧ E = IAE ∧ hp' = hp) := by
  refine KX.of rfl ok_X2_simulate (len_of rfl) hW.1.1 hW.1.2 ?_
  intro p e s m args below meth c A hC hN hE
  have h0 := hW.2 0 (by decide)
  have hi5 : inp < 512 := Nat.lt_of_lt_of_le hg.2.1 (p2_lt hg.1)
  refine g_run hC 2 rfl ?_
  refine g_callVX hC hN hE (by decide) (fun E hp' q => ⟨fun z => q.1 ((inpB_iff hi5).mpr z), q.2.1, q.2.2⟩) [.int x] (c_X2_refuseOther hW hfl h x) rfl M_X2_83 h0 h.1 rfl rfl (len_of rfl) (by decide) (by decide) ?_
  rintro r hp1 ⟨q, rfl, rfl⟩
  obtain ⟨o, ho, h1, rfl⟩ := (inpB_iff hi5).mp q
  refine g_run hC 2 rfl ?_
  refine g_callV hC hN [.int (nI o)] (c_X2_ones hW h hg o ho) rfl M_X2_87 h0 h.1 rfl rfl (len_of rfl) (by decide) (by decide) ?_
  rintro r hp2 ⟨rfl, rfl⟩
  exact gx_iret hC rfl rfl ⟨o, ho, h1, rfl, rfl, rfl⟩ (by decide) (by decide)
theorem c_X2_evaluate (hW : KF ad L) (hfl : l.stackTraces = false) (h : XR hp n inp an lc cl ex pr gt) (hg : XG n inp gt) (x : Int32) : KX l yX2_evaluate cX2_evaluate 2 (some .long) (rmK 7 1 6) D dA ad sa L [.ref 0, .int x] hp
    (fun r hp' => ∃ o, o < 512 ∧ o &&& inp = o ∧ x = nI o ∧ r = some (.long (vsN cl (simN inp gt o n) 512)) ∧ hp' = hp)
    (fun E hp' => ¬ (∃ o, o < 512 ∧ o &&& inp = o ∧ x = nI o) ∧ E = IAE ∧ hp' = hp) := by
  refine KX.of rfl ok_X2_evaluate (len_of rfl) hW.1.1 hW.1.2 ?_
  intro p e s m args below meth c A hC hN hE
  have h0 := hW.2 0 (by decide)
  have hi5 : inp < 512 := Nat.lt_of_lt_of_le hg.2.1 (p2_lt hg.1)
  refine g_run hC 2 rfl ?_
  refine g_callVX hC hN hE (by decide) (fun E hp' q => ⟨fun z => q.1 ((inpB_iff hi5).mpr z), q.2.1, q.2.2⟩) [.int x] (c_X2_refuseOther hW hfl h x) rfl M_X2_83 h0 h.1 rfl rfl (len_of rfl) (by decide) (by decide) ?_
  rintro r hp1 ⟨q, rfl, rfl⟩
  obtain ⟨o, ho, h1, rfl⟩ := (inpB_iff hi5).mp q
  refine g_run hC 1 rfl ?_
  refine g_get hC rfl F_X2_18 h0 h.1 rfl ?_
  refine g_run hC 2 rfl ?_
  refine g_callV hC hN [.int (nI o)] (c_X2_ones hW h hg o ho) rfl M_X2_87 h0 h.1 rfl rfl (len_of rfl) (by decide) (by decide) ?_
  rintro r hp2 ⟨rfl, rfl⟩
  refine g_callV hC hN [.int (nI (simN inp gt o n))] (c_X1_valueWhere hW hp2 2 _ cl (by decide) h.2.2.2.1) rfl M_X2_90 (hW.2 2 (by decide)) h.2.2.2.1.1 rfl rfl (len_of rfl) (by decide) (by decide) ?_
  rintro r hp3 ⟨rfl, rfl⟩
  exact gx_lret hC rfl rfl ⟨o, ho, h1, rfl, rfl, rfl⟩ (by decide) (by decide)
theorem c_X2_prove (hW : KF ad L) (hfl : l.stackTraces = false) (h : XR hp n inp an lc cl ex pr gt) (hg : XG n inp gt) : KX l yX2_prove cX2_prove 3 (some .int) (rmK 7 1 6) D dA ad sa L [.ref 0] hp
    (fun r hp' => ∃ last pr', prvN inp gt n 0 (va_up pr 0 cl) = (true, last, pr') ∧ last ≤ n ∧ r = some (.int (nI (cnt (pr' last)))) ∧ XR hp' n inp an (last + 1) cl ex pr' gt ∧ FX hp hp')
    (fun E hp' => ∃ last pr', prvN inp gt n 0 (va_up pr 0 cl) = (false, last, pr') ∧ E = AEX ∧ XR hp' n inp an lc cl ex pr' gt ∧ FX hp hp') := by
  refine KX.of rfl ok_X2_prove (len_of rfl) hW.1.1 hW.1.2 ?_
  intro p e s m args below meth c A hC hN hE
  obtain ⟨hn, hi, hgd⟩ := hg
  have h0 := hW.2 0 (by decide)
  have hi5 : inp < 512 := Nat.lt_of_lt_of_le hi (p2_lt hn)
  refine g_run hC 1 rfl ?_
  refine g_get hC rfl F_X2_22 h0 h.1 rfl ?_
  refine g_run hC 1 rfl ?_
  refine g_ald (C := RX1) (t := 3) hC 0 rfl (hW.2 4 (by decide)) h.2.2.1 rfl rfl (by decide) (by decide) rfl ?_
  refine g_run hC 1 rfl ?_
  refine g_get hC rfl F_X2_18 h0 h.1 rfl ?_
  have hp0 := h.2.2.2.2.2.1 0 (by decide)
  refine g_callV hC hN [.ref 2] (c_X1_becomeCopy hW hp 34 2 _ cl (by decide) hp0 (by decide) h.2.2.2.1 (by decide) (by decide) (by decide)) rfl M_X2_94 (hW.2 34 (by decide)) hp0.1 rfl rfl (len_of rfl) (by decide) (by decide) ?_
  rintro r hp1 ⟨rfl, rfl⟩
  have h1 := h.setpr (j := 0) (r := cl) (by decide)
  generalize hRES : prvN inp gt n 0 (va_up pr 0 cl) = RES
  refine g_run hC 3 rfl ?_
  refine g_get hC rfl F_X2_37 h0 h1.1 rfl ?_
  refine g_run hC 1 rfl ?_
  refine g_ind (σ := Nat × Nat × (Nat → Nat → Int64) × (Nat → KE)) (fun x => x.1) (fun x => x.2.1 + x.1 ≤ n ∧ XR x.2.2.2 n inp an lc cl ex x.2.2.1 gt ∧ FX hp x.2.2.2 ∧ prvN inp gt x.1 x.2.1 x.2.2.1 = RES) (fun x => x.2.2.2) (fun x => [(0, .ref 0), (1, .int (nI x.2.1)), (2, .int (nI x.1))]) (n, 0, va_up pr 0 cl, setP hp 34 cl) ⟨Nat.le_of_eq (Nat.zero_add n), h1, FX.setP (by decide), hRES⟩ rfl ⟨rfl, rfl, rfl, trivial⟩ ?_
  rintro ⟨w, last, pr1, hp2⟩ ⟨hwl, hx, hf, hres⟩ ih
  dsimp only at hwl hx hf hres ih ⊢
  refine g_run hC 2 rfl ?_
  refine g_iclt (tgt := 95) hC rfl (by decide) (fun h2 => ?_) (fun h2 => ?_)
  · have hw0 : w = 0 := by
      have := (nI_ltI (a := w) (b := 1) (by omega) (by decide)).mp h2
      omega
    subst hw0
    simp only [prvN] at hres
    refine g_run hC 4 rfl ?_
    refine g_top (nI (last + 1)) (nI_s last) ?_
    refine g_putI hC rfl F_X2_113 h0 hx.1 (len_of rfl) rfl rfl ?_
    have h3 := hx.obj (n2 := n) (inp2 := inp) (an2 := an) (lc2 := last + 1)
    refine g_run hC 1 rfl ?_
    refine g_get hC rfl F_X2_22 h0 h3.1 rfl ?_
    refine g_run hC 1 rfl ?_
    refine g_ald (C := RX1) (t := 3) hC last rfl (hW.2 4 (by decide)) h3.2.2.1 rfl rfl (by omega) (by decide) rfl ?_
    have hpl := h3.2.2.2.2.2.1 last (by omega)
    refine g_callV hC hN [] (c_X1_monomialCount hW _ (34 + 2 * last) _ (by omega) hpl) rfl M_X2_105 (hW.2 _ (by omega)) hpl.1 rfl rfl (len_of rfl) (by decide) (by decide) ?_
    rintro r hp3 ⟨rfl, rfl⟩
    exact gx_iret hC rfl rfl ⟨last, pr1, hres.symm, by omega, rfl, h3, hf.tr (FX.up (by decide))⟩ (by decide) (by decide)
  · have hw0 : ¬ w < 1 := fun z => h2 ((nI_ltI (a := w) (b := 1) (by omega) (by decide)).mpr z)
    obtain ⟨w1, rfl⟩ : ∃ k, w = k + 1 := ⟨w - 1, by omega⟩
    simp only [prvN] at hres
    refine g_run hC 2 rfl ?_
    refine g_callV hC hN [.int (nI (w1 + 1))] (c_X2_isGate hW hx w1 hi5 (by omega)) rfl M_X2_98 h0 hx.1 rfl rfl (len_of rfl) (by decide) (by decide) ?_
    rintro r hp3 ⟨rfl, rfl⟩
    by_cases hb : inp &&& 2 ^ w1 = 0
    · rw [decide_eq_true hb]
      rw [if_pos hb] at hres
      have hgg := hgd w1 (by omega) hb
      refine g_ifeq (tgt := 89) hC rfl (by decide) (fun h3 => absurd h3 (by decide)) (fun _ => ?_)
      refine g_run hC 2 rfl ?_
      refine g_get hC rfl F_X2_22 h0 hx.1 rfl ?_
      refine g_run hC 1 rfl ?_
      refine g_ald (C := RX1) (t := 3) hC (last + 1) rfl (hW.2 4 (by decide)) hx.2.2.1 rfl (nI_s last) (by omega) (by decide) rfl ?_
      refine g_run hC 1 rfl ?_
      refine g_get hC rfl F_X2_22 h0 hx.1 rfl ?_
      refine g_run hC 3 rfl ?_
      refine g_ald (C := RX1) (t := 3) hC last rfl (hW.2 4 (by decide)) hx.2.2.1 rfl ?_ (by omega) (by decide) rfl ?_
      · show nI last + cI 1 - nI 1 = nI last
        rw [nI_s]; exact pk_sub (a := last + 1) (b := 1) (by omega)
      refine g_run hC 1 rfl ?_
      refine g_callS hC hN [.int (nI (w1 + 1))] (c_X2_bitOf hW hp3 (w1 + 1) (by omega) (by omega)) rfl M_X2_40 rfl (len_of rfl) (by decide) (by decide) ?_
      rintro r hp4 ⟨rfl, rfl⟩
      refine g_run hC 1 rfl ?_
      refine g_get hC rfl F_X2_11 h0 hx.1 rfl ?_
      refine g_run hC 3 rfl ?_
      refine g_ald (C := RX0) (t := 2) hC w1 rfl (hW.2 1 (by decide)) hx.2.1 rfl (pk_sub (a := w1 + 1) (b := 1) (by omega)) (by omega) (by decide) rfl ?_
      have q1 := hx.2.2.2.2.2.1 (last + 1) (by omega)
      have q2 := hx.2.2.2.2.2.1 last (by omega)
      have q3 := hx.2.2.2.2.2.2 w1 (by omega)
      refine g_callV hC hN [.ref (34 + 2 * last), .int (nI (2 ^ (w1 + 1 - 1))), .ref (7 + 3 * w1)] (c_X1_becomeElimination hW hp4 (34 + 2 * (last + 1)) (34 + 2 * last) (7 + 3 * w1) (w1 + 1 - 1) _ _ _ _ _ _ _ _ (by omega) q1 (by omega) q2 (by omega) q3 (by omega) (by omega) (by omega) (by omega) (by omega) (by omega) (by omega) (by omega) (hgg.lt (by omega))) rfl M_X2_101 (hW.2 _ (by omega)) q1.1 rfl rfl (len_of rfl) (by decide) (by decide) ?_
      rintro r hp5 ⟨rfl, rfl⟩
      rw [Nat.add_sub_cancel]
      have h4 := hx.setpr (j := last + 1) (r := elimC (pr1 last) (2 ^ w1) (gt w1).2.2.2.2.1 (gt w1).2.2.2.2.2) (by omega)
      refine g_run hC 1 rfl ?_
      refine g_get hC rfl F_X2_22 h0 h4.1 rfl ?_
      refine g_run hC 1 rfl ?_
      refine g_ald (C := RX1) (t := 3) hC (last + 1) rfl (hW.2 4 (by decide)) h4.2.2.1 rfl (nI_s last) (by omega) (by decide) rfl ?_
      refine g_callV hC hN [] (c_X1_monomialCount hW _ (34 + 2 * (last + 1)) _ (by omega) (setP_at _ _ _)) rfl M_X2_105 (hW.2 _ (by omega)) (setP_at _ _ _).1 rfl rfl (len_of rfl) (by decide) (by decide) ?_
      rintro r hp6 ⟨rfl, rfl⟩
      refine g_run hC 1 rfl ?_
      have hcl := cnt_le (elimC (pr1 last) (2 ^ w1) (gt w1).2.2.2.2.1 (gt w1).2.2.2.2.2)
      refine g_icle (tgt := 89) hC rfl (by decide) (fun h3 => ?_) (fun h3 => ?_)
      · have h5 := (nI_leI (b := 40) (by omega) (by decide)).mp h3
        rw [if_pos h5] at hres
        refine g_run hC 2 rfl ?_
        exact g_lvs (ih (w1, last + 1, _, _) ⟨by dsimp only; omega, h4, hf.tr (FX.setP (by omega)), hres⟩ (by dsimp only; omega)) ⟨rfl, sI (nI_s last), sI (m1_pred (Nat.succ_pos w1)), trivial⟩
      · have h5 : ¬ cnt (elimC (pr1 last) (2 ^ w1) (gt w1).2.2.2.2.1 (gt w1).2.2.2.2.2) ≤ 40 := fun z => h3 ((nI_leI (b := 40) (by omega) (by decide)).mpr z)
        rw [if_neg h5] at hres
        exact g_throw hC hN hE hfl T_108_110_112 rfl rfl rfl rfl rfl (by decide) (by decide) (by decide) ⟨_, _, hres.symm, rfl, h4, hf.tr (FX.setP (by omega))⟩
    · rw [decide_eq_false hb]
      rw [if_neg hb] at hres
      refine g_ifeq (tgt := 89) hC rfl (by decide) (fun _ => ?_) (fun h3 => absurd rfl h3)
      refine g_run hC 2 rfl ?_
      exact g_lvs (ih (w1, last, pr1, hp3) ⟨by dsimp only; omega, hx, hf, hres⟩ (by dsimp only; omega)) ⟨rfl, rfl, sI (m1_pred (Nat.succ_pos w1)), trivial⟩
end
