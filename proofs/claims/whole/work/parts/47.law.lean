theorem NEW_L2 : NEW RL 8 2 [.null, .int 0, .int 0, .null, .int 0, .null, .int 0, .null] := ⟨rfl, kL_L_8, iT_X2, iN_X2, uw_2, tyX2_ok, fun j hj => by
  match j, hj with
  | 0, _ => rfl
  | 1, _ => rfl
  | 2, _ => rfl
  | 3, _ => rfl
  | 4, _ => rfl
  | 5, _ => rfl
  | 6, _ => rfl
  | 7, _ => rfl, fun v hv k e => by
  subst e
  simp at hv⟩
theorem NEW_L3 : NEW RL 63 3 [.int 0, .int 0, .null, .null, .null, .null, .int 0, .null, .int 0, .null, .null, .null, .null, .null] := ⟨rfl, kL_L_63, iT_X3, iN_X3, uw_3, tyX3_ok, fun j hj => by
  match j, hj with
  | 0, _ => rfl
  | 1, _ => rfl
  | 2, _ => rfl
  | 3, _ => rfl
  | 4, _ => rfl
  | 5, _ => rfl
  | 6, _ => rfl
  | 7, _ => rfl
  | 8, _ => rfl
  | 9, _ => rfl
  | 10, _ => rfl
  | 11, _ => rfl
  | 12, _ => rfl
  | 13, _ => rfl, fun v hv k e => by
  subst e
  simp at hv⟩
theorem MIL_2 : MIL RL 62 yX2_init cX2_init 2 := ⟨⟨mL_L_62, yI_X2_init, iN_X2, cd_X2_init⟩, rfl, by decide, by decide, by decide +kernel⟩
theorem MIL_3 : MIL RL 65 yX3_init cX3_init 1 := ⟨⟨mL_L_65, yI_X3_init, iN_X3, cd_X3_init⟩, rfl, by decide, by decide, by decide +kernel⟩
theorem and15 (x : Int32) : ∃ k, k < 16 ∧ x &&& cI 15 = nI k := by
  refine ⟨(x.toBitVec &&& 15#32).toNat, ?_, ?_⟩
  · rw [BitVec.toNat_and]
    exact Nat.lt_of_le_of_lt Nat.and_le_right (by decide)
  · apply Int32.toBitVec_inj.mp
    show x.toBitVec &&& 15#32 = BitVec.ofNat 32 (x.toBitVec &&& 15#32).toNat
    rw [BitVec.ofNat_toNat, BitVec.setWidth_eq]
theorem end5 {N i : Nat} (hN : N ≤ 2560) (hi : i ≤ 2560) : nI N - cI 5 < nI i ↔ N < i + 5 := by
  by_cases h : 5 ≤ N
  · rw [show nI N - cI 5 = nI (N - 5) from pk_sub h, nI_ltI (by omega) (by omega)]
    omega
  · have h2 : nI N - cI 5 < 0 := by
      rcases (show N = 0 ∨ N = 1 ∨ N = 2 ∨ N = 3 ∨ N = 4 by omega) with e | e | e | e | e <;> subst e <;> decide
    constructor
    · intro _; omega
    · intro _; exact Int32.lt_of_lt_of_le h2 (nI_pos' (by omega))
section
variable {p : Program} {l : Launch} {e : Env} {s : State} {m : MethodId} {below : List Frame} {meth : Method} {c : Code} {D : va_G} {dA ad sa : Nat → Nat} {L : List Nat} {b N : Nat} {xs : Nat → Int32}
set_option maxRecDepth 100000 in
set_option maxHeartbeats 4000000 in
theorem l_loop (hC : CX p s m #[Value.ref b] meth c RL cL_law 8 (some .boolean) tb_L_law D dA ad L (fun q => s.heap.size ≤ q)) (hN : NW (fun q => s.heap.size ≤ q) sa s s.heap) (hNC : NC s) (hW : KF ad L) (hfl : l.stackTraces = false) (hX : LX ad (fun q => s.heap.size ≤ q) b N xs s) :
    ∀ (n i : Nat) (hp : Nat → KE) (cells slots : Nat), N < i + n → i ≤ 2560 → cells ≤ 100 + i → slots ≤ 10000 + 6 * i → INV hp → G p l e room_1 s m #[Value.ref b] below meth c D dA ad L (fun q => s.heap.size ≤ q) 8 cells slots (lw_Z below #[Value.ref b] s) hp 23 (LV i) [] := by
  have hN9 : N ≤ 2560 := hX.2.2.2.2
  intro n
  induction n with
  | zero =>
    intro i hp cells slots h1 h2 hc hs hI
    unfold LV
    refine g_run hC 2 rfl ?_
    refine g_slen hC hX rfl ?_
    refine g_run hC 2 rfl ?_
    refine g_icgt (tgt := 874) hC rfl (by decide) (fun _ => ?_) (fun z => absurd ((end5 hN9 h2).mpr (by omega)) z)
    refine g_run hC 1 rfl ?_
    obtain ⟨⟨hx, hb, hml, ho, hts⟩, hr, hlk, htb, -⟩ := hC
    obtain ⟨n9, hd, hnx, hn9⟩ := fd_ok htb (show fd tb_L_law 875 = some (.ireturn, 876) from rfl)
    obtain rfl : n9 = 1 := hn9.resolve_left (by simp [ilen])
    intro H locs ls hP hS hl
    refine va_forget (fun q hq => hS.2.2 q hq) ?_
    refine W.widen (k := 603072) (n := 7182442) (by omega) (by omega) ?_
    exact lw_ret hx hb hr hlk hd
  | succ n ih =>
    intro i hp cells slots h1 h2 hc hs hI
    unfold LV
    refine g_run hC 2 rfl ?_
    refine g_slen hC hX rfl ?_
    refine g_run hC 2 rfl ?_
    refine g_icgt (tgt := 874) hC rfl (by decide) (fun _ => ?_) (fun z => ?_)
    · refine g_run hC 1 rfl ?_
      obtain ⟨⟨hx, hb, hml, ho, hts⟩, hr, hlk, htb, -⟩ := hC
      obtain ⟨n9, hd, hnx, hn9⟩ := fd_ok htb (show fd tb_L_law 875 = some (.ireturn, 876) from rfl)
      obtain rfl : n9 = 1 := hn9.resolve_left (by simp [ilen])
      intro H locs ls hP hS hl
      refine va_forget (fun q hq => hS.2.2 q hq) ?_
      refine W.widen (k := 603072) (n := 7182442) (by omega) (by omega) ?_
      exact lw_ret hx hb hr hlk hd
    have hi5 : i + 5 ≤ N := by
      have hz : ¬ N < i + 5 := fun q => z ((end5 hN9 h2).mpr q)
      omega
    have hfc : cells + 5 ≤ room_1.cells ∧ slots + 30 ≤ room_1.slots := ⟨by show cells + 5 ≤ 603072; omega, by show slots + 30 ≤ 7182442; omega⟩
    have tail : ∀ hp2 : Nat → KE, INV hp2 → G p l e room_1 s m #[Value.ref b] below meth c D dA ad L (fun q => s.heap.size ≤ q) 8 (cells + 5) (slots + 30) (lw_Z below #[Value.ref b] s) hp2 868 (LV i) [] := fun hp2 hI2 => by
      unfold LV
      refine g_run hC 2 rfl ?_
      exact g_lvs (lv' := LV (i + 5)) (ih (i + 5) hp2 (cells + 5) (slots + 30) (by omega) (by omega) (by omega) (by omega) hI2) ⟨rfl, rfl, rfl, rfl, sI (nI_add i 5), trivial⟩
    refine g_run hC 2 rfl ?_
    refine g_sld hC hX i rfl rfl (by omega) ?_
    refine g_run hC 2 rfl ?_
    obtain ⟨k, hk, ek⟩ := and15 (xs i)
    refine g_top (nI k) ek ?_
    rcases (show k = 0 ∨ k = 1 ∨ k = 2 ∨ k = 3 ∨ k = 4 ∨ k = 5 ∨ k = 6 ∨ k = 7 ∨ k = 8 ∨ k = 9 ∨ k = 10 ∨ k = 11 ∨ k = 12 ∨ k = 13 ∨ k = 14 ∨ k = 15 by omega) with e | e | e | e | e | e | e | e | e | e | e | e | e | e | e | e <;> subst e
    · exact g_tsIn (tgt := 112) hC rfl (by decide) (by decide) (by decide) rfl (by decide) (s_input hC hN hNC hW hfl hX hi5 hI hfc tail)
    · exact g_tsIn (tgt := 156) hC rfl (by decide) (by decide) (by decide) rfl (by decide) (s_gate hC hN hNC hW hfl hX hi5 hI hfc tail)
    · exact g_tsIn (tgt := 248) hC rfl (by decide) (by decide) (by decide) rfl (by decide) (s_wires hC hN hNC hW hfl hX hi5 hI hfc tail)
    · exact g_tsIn (tgt := 261) hC rfl (by decide) (by decide) (by decide) rfl (by decide) (s_add hC hN hNC hW hfl hX hi5 hI hfc tail)
    · exact g_tsIn (tgt := 329) hC rfl (by decide) (by decide) (by decide) rfl (by decide) (s_simulate hC hN hNC hW hfl hX hi5 hI hfc tail)
    · exact g_tsIn (tgt := 385) hC rfl (by decide) (by decide) (by decide) rfl (by decide) (s_evaluate hC hN hNC hW hfl hX hi5 hI hfc tail)
    · exact g_tsIn (tgt := 440) hC rfl (by decide) (by decide) (by decide) rfl (by decide) (s_prove hC hN hNC hW hfl hX hi5 hI hfc tail)
    · exact g_tsIn (tgt := 484) hC rfl (by decide) (by decide) (by decide) rfl (by decide) (s_lines hC hN hNC hW hfl hX hi5 hI hfc tail)
    · exact g_tsIn (tgt := 497) hC rfl (by decide) (by decide) (by decide) rfl (by decide) (s_size hC hN hNC hW hfl hX hi5 hI hfc tail)
    · exact g_tsIn (tgt := 553) hC rfl (by decide) (by decide) (by decide) rfl (by decide) (s_monomial hC hN hNC hW hfl hX hi5 hI hfc tail)
    · exact g_tsIn (tgt := 621) hC rfl (by decide) (by decide) (by decide) rfl (by decide) (s_coefficient hC hN hNC hW hfl hX hi5 hI hfc tail)
    · exact g_tsIn (tgt := 688) hC rfl (by decide) (by decide) (by decide) rfl (by decide) (s_spoil hC hN hNC hW hfl hX hi5 hI hfc tail)
    · exact g_tsIn (tgt := 767) hC rfl (by decide) (by decide) (by decide) rfl (by decide) (s_check hC hN hNC hW hfl hX hi5 hI hfc tail)
    · exact g_tsIn (tgt := 811) hC rfl (by decide) (by decide) (by decide) rfl (by decide) (s_witness hC hN hNC hW hfl hX hi5 hI hfc tail)
    · exact g_tsIn (tgt := 855) hC rfl (by decide) (by decide) (by decide) rfl (by decide) (s_clear hC hN hNC hW hfl hX hi5 hI hfc tail)
    · exact g_tsOut (tgt := 868) hC rfl (by decide) (Or.inr (by decide)) (by decide) (g_widen (by omega) (by omega) (tail hp hI))
end
