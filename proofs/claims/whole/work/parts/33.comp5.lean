theorem nxb0 : decode prog_19_method_4_code 0 = .ok (.aload_n 0, 1) := by decide +kernel
theorem nxb1 : decode prog_19_method_4_code 1 = .ok (.aload_n 1, 1) := by decide +kernel
theorem nxb2 : decode prog_19_method_4_code 2 = .ok (.invokespecial 13, 3) := by decide +kernel
theorem nxb5 : decode prog_19_method_4_code 5 = .ok (.return_, 1) := by decide +kernel
def nxR : List String := ["java/lang/Exception"]
def nxW : List Cond := (nxL RX2 147 "java/util/NoSuchElementException" "java/lang/RuntimeException" 13 prog_19_method_4_code nxR).filter vx_no
set_option maxRecDepth 100000 in
theorem nxw : ∀ w ∈ nxW, w ∈ lw_tbl ∧ (goodWord w || faceW w) = true := by decide +kernel
set_option maxRecDepth 100000 in
theorem nxo : ∀ w ∈ Cond.classLink RX2 143 "java/util/NoSuchElementException" :: Cond.initialized "java/util/NoSuchElementException" :: nxW, vx_ot w = true := by decide +kernel
theorem nxf : Bundle.fit "java/util/NoSuchElementException" = true ∧ Bundle.fit "java/lang/RuntimeException" = true ∧ ∀ n ∈ nxR, Bundle.fit n = true := ⟨by decide +kernel, by decide +kernel, by decide +kernel⟩
section
variable {p : Program} {l : Launch} {e : Env} {R : Room} {s : State} {m : MethodId} {args : Array Value} {below : List Frame} {meth : Method} {c : Code} {D : va_G} {dA ad sa : Nat → Nat} {L : List Nat} {A : Nat → Prop} {nL cells slots : Nat} {hp : Nat → KE} {cc : ByteArray} {ret : Option FieldType}
theorem nx_hat (hts : ∀ w ∈ WW, w.before args s = true) (hN : NW A sa s s.heap) : ∀ w ∈ nxW, w.before args s = true := fun w hw => by
  obtain ⟨h1, h2⟩ := nxw w hw
  by_cases hg : goodWord w = true
  · exact hts w (WW_of h1 hg)
  · have hf : faceW w = true := by
      cases hq : goodWord w with
      | true => exact absurd hq hg
      | false => rw [hq] at h2; exact h2
    have h3 := hN.1 w (TW_of h1 hf)
    exact face_same rfl hf h3
theorem g_throwN {tb : List (Nat × Instr × Nat)} (hC : CX p s m args meth c RX2 cc nL ret tb D dA ad L A) (hN : NW A sa s s.heap) (hE : ∀ x ∈ c.exceptionTable.toList, False) (hfl : l.stackTraces = false) {pc mc ms n1 n2 n3 n4 n5 : Nat} {lv : List (Nat × Value)} {post : Option Value → (Nat → KE) → Prop} {px : String → (Nat → KE) → Prop} {rest : List Value}
    (d0 : fd tb pc = some (.new 143, n1)) (d3 : fd tb (pc + 3) = some (.dup, n2)) (d4 : fd tb (pc + 4) = some (.ldc 145, n3)) (d6 : fd tb (pc + 6) = some (.invokespecial 147, n4)) (d9 : fd tb (pc + 9) = some (.athrow, n5))
    (hR : 5 < R.frames ∧ (rest.map fun v => v.category).sum + 82 ≤ R.locals) (hfc : cells + 1 ≤ R.cells ∧ slots + 6 ≤ R.slots) (hmc : cells + 1 ≤ mc ∧ slots + 6 ≤ ms) (hpx : px "java/util/NoSuchElementException" hp) :
    G p l e R s m args below meth c D dA ad L A nL cells slots (vx_MQ below (kR D dA ad L A post) (kX D dA ad L A px) args s mc ms A) hp pc lv rest := by
  obtain ⟨⟨hx, hb, hml, ho, hts⟩, hr9, hlk, htb, hK, hj1, hnd, hA, hA2⟩ := hC
  obtain ⟨k0, e0, -, q0⟩ := fd_ok htb d0
  obtain rfl : k0 = 3 := q0.resolve_left (by simp [ilen])
  obtain ⟨k0, e3, -, q0⟩ := fd_ok htb d3
  obtain rfl : k0 = 1 := q0.resolve_left (by simp [ilen])
  obtain ⟨k0, e4, -, q0⟩ := fd_ok htb d4
  obtain rfl : k0 = 2 := q0.resolve_left (by simp [ilen])
  obtain ⟨k0, e6, -, q0⟩ := fd_ok htb d6
  obtain rfl : k0 = 3 := q0.resolve_left (by simp [ilen])
  obtain ⟨k0, e9, -, q0⟩ := fd_ok htb d9
  obtain rfl : k0 = 1 := q0.resolve_left (by simp [ilen])
  intro H locs ls hP hS hl
  exact nx_throw (r9 := nxR) hx hb hfl nxb0 nxb1 nxb2 nxb5 ho nxf.1 nxf.2.1 nxf.2.2 (hts _ kL_X2_143) (hts _ iN__java_util_NoSuchElementException) (hN.2.2.1 (145, "the rest has no monomials") (by simp [strs])) (nx_hat hts hN) nxo hN.2.2.2.1 hN.2.2.2.2 hS (hl.1.trans hml.symm) e0 e3 e4 e6 e9 (fun x hx9 => (hE x hx9).elim) hR.1 (by rw [em_cats]; exact hR.2) hfc.1 hfc.2 hlk (kx_keep hP hS hpx) hS.2.2 hmc.1 hmc.2
end
section
variable {l : Launch} {D : va_G} {dA ad sa : Nat → Nat} {L : List Nat} {hp : Nat → KE} {n inp an lc : Nat} {cl ex : Nat → Int64} {pr : Nat → Nat → Int64} {gt : Nat → GT}
theorem c_X2_witness (hW : KF ad L) (hfl : l.stackTraces = false) (h : XR hp n inp an lc cl ex pr gt) (hlc : lc ≤ 10) : KX l yX2_witness cX2_witness 2 (some .int) (rmK 7 2 12) D dA ad sa L [.ref 0] hp
    (fun r hp' => ¬ lc = 0 ∧ ¬ cnt (pr (lc - 1)) = 0 ∧ r = some (.int (nI (lmN (pr (lc - 1)) 512).1)) ∧ hp' = hp) (fun E hp' => ((lc = 0 ∧ E = ISE) ∨ (¬ lc = 0 ∧ cnt (pr (lc - 1)) = 0 ∧ E = NSE)) ∧ hp' = hp) := by
  refine KX.of rfl ok_X2_witness (len_of rfl) hW.1.1 hW.1.2 ?_
  intro p e s m args below meth c A hC hN hE
  have h0 := hW.2 0 (by decide)
  refine g_run hC 1 rfl ?_
  refine g_callVX hC hN hE (by decide) (fun E hp' q => ⟨Or.inl ⟨q.1, q.2.1⟩, q.2.2⟩) [] (c_X2_refuseWithout hW hfl h (by omega)) rfl M_X2_136 h0 h.1 rfl rfl (len_of rfl) (by decide) (by decide) ?_
  rintro r hp1 ⟨hl0, rfl, rfl⟩
  have hpk := h.2.2.2.2.2.1 (lc - 1) (by omega)
  have hcl := cnt_le (pr (lc - 1))
  refine g_run hC 1 rfl ?_
  refine g_get hC rfl F_X2_22 h0 h.1 rfl ?_
  refine g_run hC 1 rfl ?_
  refine g_get hC rfl F_X2_113 h0 h.1 rfl ?_
  refine g_run hC 2 rfl ?_
  refine g_ald (C := RX1) (t := 3) hC (lc - 1) rfl (hW.2 4 (by decide)) h.2.2.1 rfl (pk_sub (a := lc) (b := 1) (by omega)) (by omega) (by decide) rfl ?_
  refine g_run hC 2 rfl ?_
  refine g_callV hC hN [] (c_X1_monomialCount hW _ (34 + 2 * (lc - 1)) _ (by omega) hpk) rfl M_X2_105 (hW.2 _ (by omega)) hpk.1 rfl rfl (len_of rfl) (by decide) (by decide) ?_
  rintro r hp2 ⟨rfl, rfl⟩
  refine g_ifne (tgt := 33) hC rfl (by decide) (fun h1 => ?_) (fun h1 => ?_)
  · have hc0 : ¬ cnt (pr (lc - 1)) = 0 := fun z => h1 (by rw [z]; rfl)
    refine g_run hC 1 rfl ?_
    refine g_callV hC hN [] (c_X1_least hW _ (34 + 2 * (lc - 1)) _ (by omega) hpk) rfl M_X2_148 (hW.2 _ (by omega)) hpk.1 rfl rfl (len_of rfl) (by decide) (by decide) ?_
    rintro r hp3 ⟨rfl, rfl⟩
    exact gx_iret hC rfl rfl ⟨hl0, hc0, rfl, rfl⟩ (by decide) (by decide)
  · have hc0 : cnt (pr (lc - 1)) = 0 := (nI_z (by omega)).mp h1
    exact g_throwN hC hN hE hfl rfl rfl rfl rfl rfl (by decide) (by decide) (by decide) ⟨Or.inr ⟨hl0, hc0, rfl⟩, rfl⟩
end
