def LV (i : Nat) : List (Nat × Value) := [(0, .ref 66), (1, .ref 0), (2, .ref 54), (3, .ref 65), (4, .int (nI i))]
theorem MH_input : MHK RL 66 yL_input cL_input 3 [(0, 8, 11, 13)] 2 := ⟨⟨mL_L_66, yS_L_input, iN_L, cd_L_input⟩, by decide, by decide, by decide +kernel⟩
theorem MH_gate : MHK RL 75 yL_gate cL_gate 7 [(0, 14, 17, 19), (0, 14, 21, 13)] 6 := ⟨⟨mL_L_75, yS_L_gate, iN_L, cd_L_gate⟩, by decide, by decide, by decide +kernel⟩
theorem MH_add : MHK RL 83 yL_add cL_add 5 [(0, 10, 13, 19), (0, 10, 17, 13)] 4 := ⟨⟨mL_L_83, yS_L_add, iN_L, cd_L_add⟩, by decide, by decide, by decide +kernel⟩
theorem MH_simulate : MHK RL 87 yL_simulate cL_simulate 4 [(0, 9, 12, 19)] 3 := ⟨⟨mL_L_87, yS_L_simulate, iN_L, cd_L_simulate⟩, by decide, by decide, by decide +kernel⟩
theorem MH_evaluate : MHK RL 91 yL_evaluate cL_evaluate 4 [(0, 8, 11, 19)] 3 := ⟨⟨mL_L_91, yS_L_evaluate, iN_L, cd_L_evaluate⟩, by decide, by decide, by decide +kernel⟩
theorem MH_prove : MHK RL 94 yL_prove cL_prove 3 [(0, 8, 11, 36)] 2 := ⟨⟨mL_L_94, yS_L_prove, iN_L, cd_L_prove⟩, by decide, by decide, by decide +kernel⟩
theorem MH_size : MHK RL 101 yL_size cL_size 4 [(0, 9, 12, 13), (0, 9, 15, 41)] 3 := ⟨⟨mL_L_101, yS_L_size, iN_L, cd_L_size⟩, by decide, by decide, by decide +kernel⟩
theorem MH_monomial : MHK RL 104 yL_monomial cL_monomial 5 [(0, 10, 13, 13), (0, 10, 17, 41)] 4 := ⟨⟨mL_L_104, yS_L_monomial, iN_L, cd_L_monomial⟩, by decide, by decide, by decide +kernel⟩
theorem MH_coefficient : MHK RL 107 yL_coefficient cL_coefficient 5 [(0, 9, 12, 13), (0, 9, 16, 41)] 4 := ⟨⟨mL_L_107, yS_L_coefficient, iN_L, cd_L_coefficient⟩, by decide, by decide, by decide +kernel⟩
theorem MH_spoil : MHK RL 110 yL_spoil cL_spoil 6 [(0, 11, 14, 13), (0, 11, 18, 41), (0, 11, 22, 36)] 5 := ⟨⟨mL_L_110, yS_L_spoil, iN_L, cd_L_spoil⟩, by decide, by decide, by decide +kernel⟩
theorem MH_check : MHK RL 114 yL_check cL_check 3 [(0, 8, 11, 13)] 2 := ⟨⟨mL_L_114, yS_L_check, iN_L, cd_L_check⟩, by decide, by decide, by decide +kernel⟩
theorem MH_witness : MHK RL 117 yL_witness cL_witness 3 [(0, 8, 11, 13), (0, 8, 14, 60)] 2 := ⟨⟨mL_L_117, yS_L_witness, iN_L, cd_L_witness⟩, by decide, by decide, by decide +kernel⟩
section
variable {p : Program} {l : Launch} {e : Env} {s : State} {m : MethodId} {args : Array Value} {below : List Frame} {meth : Method} {c : Code} {D : va_G} {dA ad sa : Nat → Nat} {L : List Nat} {A : Nat → Prop} {cells slots : Nat} {Q : State → Prop} {hp : Nat → KE} {b N : Nat} {xs : Nat → Int32}
set_option maxRecDepth 100000 in
set_option maxHeartbeats 2000000 in
theorem s_input (hC : CX p s m args meth c RL cL_law 8 (some .boolean) tb_L_law D dA ad L A) (hN : NW A sa s s.heap) (hNC : NC s) (hW : KF ad L) (hfl : l.stackTraces = false) (hX : LX ad A b N xs s) {i : Nat} (hi : i + 5 ≤ N) (hI : INV hp) (hfc : cells + 5 ≤ room_1.cells ∧ slots + 30 ≤ room_1.slots) (K : ∀ hp2 : Nat → KE, INV hp2 → G p l e room_1 s m args below meth c D dA ad L A 8 (cells + 5) (slots + 30) Q hp2 868 (LV i) []) : G p l e room_1 s m args below meth c D dA ad L A 8 cells slots Q hp 112 (LV i) [] := by
  obtain ⟨n, inp, an, li, th, cl, ex, pr, gt, ki, fi, se, tr, si, st, nu, wo, fr, f0, h, hm, h65, hB⟩ := hI
  unfold LV
  refine g_run hC 2 rfl ?_
  have ho := c_L_input hW (dA := dA) (D := D) (sa := sa) (l := l) h.1 (c_X2_input hW hfl h hB.1) (by rintro r hp1 ⟨-, rfl, -, hF⟩; exact ⟨_, f0, rfl, (hF 65 (by decide)).trans h65⟩) (by
    rintro E hp1 ⟨-, rfl, -⟩; rfl)
  refine g_callH hC hN hNC [.ref 0, .ref 65] ho rfl MH_input rfl (len_of rfl) (by decide) ⟨by have := hfc.1; show cells + 1 ≤ _; omega, by have := hfc.2; show slots + 6 ≤ _; omega⟩ ?_
  intro r1 hpw hw
  obtain ⟨kc, hkc, rfl, hm2, K2⟩ := t_input h hm h65 hB hw
  refine g_run hC 2 rfl ?_
  refine g_callV hC hN [] (c_X3_input hW hm2 hB.1.1) rfl M_L_71 (hW.2 54 (by decide)) hm2.g100 rfl rfl (len_of rfl) (by decide) ⟨by have := hfc.1; show cells + 1 + 0 ≤ _; omega, by have := hfc.2; show slots + 6 + 0 ≤ _; omega⟩ ?_
  intro r2 hp2 hr2
  obtain ⟨v2, rfl, hF⟩ := K2 r2 hp2 hr2
  have hinv := hF.inv
  obtain ⟨n9, inp9, an9, li9, cl9, ex9, pr9, gt9, ki9, fi9, se9, tr9, si9, st9, nu9, wo9, fr9, f9, -, hm9, h659, -, hv9⟩ := hF
  refine g_run hC 2 rfl ?_
  refine g_callV hC hN [] (c_X3_thrown hW hm9) rfl M_L_72 (hW.2 54 (by decide)) hm9.g100 rfl rfl (len_of rfl) (by decide) ⟨by have := hfc.1; show cells + 1 + 0 + 0 ≤ _; omega, by have := hfc.2; show slots + 6 + 0 + 0 ≤ _; omega⟩ ?_
  rintro r3 hp3 ⟨rfl, rfl⟩
  refine g_run hC 1 rfl ?_
  refine g_iceq (tgt := 136) hC rfl (by decide) (fun _ => ?_) (fun z => absurd rfl z)
  refine g_run hC 1 rfl ?_
  refine g_ifne (tgt := 153) hC rfl (by decide) (fun _ => ?_) (fun z => ?_)
  · exact g_run hC 1 rfl (g_lvs (lv' := LV i) (g_widen (by show cells + 1 + 0 + 0 ≤ _; omega) (by show slots + 6 + 0 + 0 ≤ _; omega) (K _ hinv)) ⟨rfl, rfl, rfl, rfl, rfl, trivial⟩)
  · refine g_run hC 2 rfl ?_
    refine g_lld hC 0 rfl (hW.2 65 (by decide)) h659 rfl (by decide) (by decide) ?_
    refine g_run hC 3 rfl ?_
    refine g_ifeq (tgt := 153) hC rfl (by decide) (fun _ => ?_) (fun z9 => ?_)
    · exact g_run hC 1 rfl (g_lvs (lv' := LV i) (g_widen (by show cells + 1 + 0 + 0 ≤ _; omega) (by show slots + 6 + 0 + 0 ≤ _; omega) (K _ hinv)) ⟨rfl, rfl, rfl, rfl, rfl, trivial⟩)
    · exact absurd ((cmp0 _ _).mpr (hv9 ((nI_z (by omega)).mp z))) z9
set_option maxRecDepth 100000 in
set_option maxHeartbeats 2000000 in
theorem s_gate (hC : CX p s m args meth c RL cL_law 8 (some .boolean) tb_L_law D dA ad L A) (hN : NW A sa s s.heap) (hNC : NC s) (hW : KF ad L) (hfl : l.stackTraces = false) (hX : LX ad A b N xs s) {i : Nat} (hi : i + 5 ≤ N) (hI : INV hp) (hfc : cells + 5 ≤ room_1.cells ∧ slots + 30 ≤ room_1.slots) (K : ∀ hp2 : Nat → KE, INV hp2 → G p l e room_1 s m args below meth c D dA ad L A 8 (cells + 5) (slots + 30) Q hp2 868 (LV i) []) : G p l e room_1 s m args below meth c D dA ad L A 8 cells slots Q hp 156 (LV i) [] := by
  obtain ⟨n, inp, an, li, th, cl, ex, pr, gt, ki, fi, se, tr, si, st, nu, wo, fr, f0, h, hm, h65, hB⟩ := hI
  unfold LV
  refine g_run hC 5 rfl ?_
  refine g_sld hC hX (i + 1) rfl (nI_add i 1) (by omega) ?_
  refine g_run hC 4 rfl ?_
  refine g_sld hC hX (i + 2) rfl (nI_add i 2) (by omega) ?_
  refine g_run hC 4 rfl ?_
  refine g_sld hC hX (i + 3) rfl (nI_add i 3) (by omega) ?_
  refine g_run hC 4 rfl ?_
  refine g_sld hC hX (i + 4) rfl (nI_add i 4) (by omega) ?_
  refine g_run hC 1 rfl ?_
  have ho := c_L_gate hW (dA := dA) (D := D) (sa := sa) (l := l) h.1 (c_X2_gate hW hfl h hB.1 ((xs (i + 1))) ((xs (i + 2))) ((xs (i + 3))) ((xs (i + 4)))) (by rintro r hp1 ⟨-, -, rfl, k, a1, b1, c1, -, -, -, -, -, -, -, -, -, hF⟩; exact ⟨_, f0, rfl, (hF 65 (by decide)).trans h65⟩) (by
    rintro E hp1 ⟨⟨-, rfl⟩ | ⟨-, -, rfl⟩, -⟩
    · exact Or.inl rfl
    · exact Or.inr (rfl))
  refine g_callH hC hN hNC [.ref 0, .int (xs (i + 1)), .int (xs (i + 2)), .int (xs (i + 3)), .int (xs (i + 4)), .ref 65] ho rfl MH_gate rfl (len_of rfl) (by decide) ⟨by have := hfc.1; show cells + 1 ≤ _; omega, by have := hfc.2; show slots + 6 ≤ _; omega⟩ ?_
  intro r1 hpw hw
  obtain ⟨kc, hkc, rfl, hm2, K2⟩ := t_gate h hm h65 hB hw
  refine g_run hC 6 rfl ?_
  refine g_sld hC hX (i + 1) rfl (nI_add i 1) (by omega) ?_
  refine g_run hC 4 rfl ?_
  refine g_sld hC hX (i + 2) rfl (nI_add i 2) (by omega) ?_
  refine g_run hC 4 rfl ?_
  refine g_sld hC hX (i + 3) rfl (nI_add i 3) (by omega) ?_
  refine g_run hC 4 rfl ?_
  refine g_sld hC hX (i + 4) rfl (nI_add i 4) (by omega) ?_
  refine g_callV hC hN [.int (xs (i + 1)), .int (xs (i + 2)), .int (xs (i + 3)), .int (xs (i + 4))] (c_X3_gate hW hm2 hB.1.1 _ _ _ _) rfl M_L_78 (hW.2 54 (by decide)) hm2.g100 rfl rfl (len_of rfl) (by decide) ⟨by have := hfc.1; show cells + 1 + 0 ≤ _; omega, by have := hfc.2; show slots + 6 + 0 ≤ _; omega⟩ ?_
  intro r2 hp2 hr2
  obtain ⟨v2, rfl, hF⟩ := K2 r2 hp2 hr2
  have hinv := hF.inv
  obtain ⟨n9, inp9, an9, li9, cl9, ex9, pr9, gt9, ki9, fi9, se9, tr9, si9, st9, nu9, wo9, fr9, f9, -, hm9, h659, -, hv9⟩ := hF
  refine g_run hC 2 rfl ?_
  refine g_callV hC hN [] (c_X3_thrown hW hm9) rfl M_L_72 (hW.2 54 (by decide)) hm9.g100 rfl rfl (len_of rfl) (by decide) ⟨by have := hfc.1; show cells + 1 + 0 + 0 ≤ _; omega, by have := hfc.2; show slots + 6 + 0 + 0 ≤ _; omega⟩ ?_
  rintro r3 hp3 ⟨rfl, rfl⟩
  refine g_run hC 1 rfl ?_
  refine g_iceq (tgt := 228) hC rfl (by decide) (fun _ => ?_) (fun z => absurd rfl z)
  refine g_run hC 1 rfl ?_
  refine g_ifne (tgt := 245) hC rfl (by decide) (fun _ => ?_) (fun z => ?_)
  · exact g_run hC 1 rfl (g_lvs (lv' := LV i) (g_widen (by show cells + 1 + 0 + 0 ≤ _; omega) (by show slots + 6 + 0 + 0 ≤ _; omega) (K _ hinv)) ⟨rfl, rfl, rfl, rfl, rfl, trivial⟩)
  · refine g_run hC 2 rfl ?_
    refine g_lld hC 0 rfl (hW.2 65 (by decide)) h659 rfl (by decide) (by decide) ?_
    refine g_run hC 3 rfl ?_
    refine g_ifeq (tgt := 245) hC rfl (by decide) (fun _ => ?_) (fun z9 => ?_)
    · exact g_run hC 1 rfl (g_lvs (lv' := LV i) (g_widen (by show cells + 1 + 0 + 0 ≤ _; omega) (by show slots + 6 + 0 + 0 ≤ _; omega) (K _ hinv)) ⟨rfl, rfl, rfl, rfl, rfl, trivial⟩)
    · exact absurd ((cmp0 _ _).mpr (hv9 ((nI_z (by omega)).mp z))) z9
set_option maxRecDepth 100000 in
set_option maxHeartbeats 2000000 in
theorem s_wires (hC : CX p s m args meth c RL cL_law 8 (some .boolean) tb_L_law D dA ad L A) (hN : NW A sa s s.heap) (hNC : NC s) (hW : KF ad L) (hfl : l.stackTraces = false) (hX : LX ad A b N xs s) {i : Nat} (hi : i + 5 ≤ N) (hI : INV hp) (hfc : cells + 5 ≤ room_1.cells ∧ slots + 30 ≤ room_1.slots) (K : ∀ hp2 : Nat → KE, INV hp2 → G p l e room_1 s m args below meth c D dA ad L A 8 (cells + 5) (slots + 30) Q hp2 868 (LV i) []) : G p l e room_1 s m args below meth c D dA ad L A 8 cells slots Q hp 248 (LV i) [] := by
  obtain ⟨n, inp, an, li, th, cl, ex, pr, gt, ki, fi, se, tr, si, st, nu, wo, fr, f0, h, hm, h65, hB⟩ := hI
  unfold LV
  refine g_run hC 1 rfl ?_
  refine g_callV hC hN [] (c_X2_wires hW h) rfl M_L_79 (hW.2 0 (by decide)) h.1 rfl rfl (len_of rfl) (by decide) ⟨by have := hfc.1; show cells + 0 ≤ _; omega, by have := hfc.2; show slots + 0 ≤ _; omega⟩ ?_
  rintro r1 hp1 ⟨rfl, rfl⟩
  refine g_run hC 1 rfl ?_
  refine g_callV hC hN [] (c_X3_wires hW hm) rfl M_L_82 (hW.2 54 (by decide)) hm.g100 rfl rfl (len_of rfl) (by decide) ⟨by have := hfc.1; show cells + 0 + 0 ≤ _; omega, by have := hfc.2; show slots + 0 + 0 ≤ _; omega⟩ ?_
  rintro r2 hp2 ⟨rfl, hM, hFM⟩
  refine g_iceq (tgt := 868) hC rfl (by decide) (fun _ => ?_) (fun z => absurd rfl z)
  exact g_widen (by show cells + 0 + 0 ≤ _; omega) (by show slots + 0 + 0 ≤ _; omega) (K hp2 (mkinv (h.fm hFM) hM (hFM.o65 h65) hB))
set_option maxRecDepth 100000 in
set_option maxHeartbeats 2000000 in
theorem s_add (hC : CX p s m args meth c RL cL_law 8 (some .boolean) tb_L_law D dA ad L A) (hN : NW A sa s s.heap) (hNC : NC s) (hW : KF ad L) (hfl : l.stackTraces = false) (hX : LX ad A b N xs s) {i : Nat} (hi : i + 5 ≤ N) (hI : INV hp) (hfc : cells + 5 ≤ room_1.cells ∧ slots + 30 ≤ room_1.slots) (K : ∀ hp2 : Nat → KE, INV hp2 → G p l e room_1 s m args below meth c D dA ad L A 8 (cells + 5) (slots + 30) Q hp2 868 (LV i) []) : G p l e room_1 s m args below meth c D dA ad L A 8 cells slots Q hp 261 (LV i) [] := by
  obtain ⟨n, inp, an, li, th, cl, ex, pr, gt, ki, fi, se, tr, si, st, nu, wo, fr, f0, h, hm, h65, hB⟩ := hI
  unfold LV
  refine g_run hC 5 rfl ?_
  refine g_sld hC hX (i + 1) rfl (nI_add i 1) (by omega) ?_
  refine g_run hC 4 rfl ?_
  refine g_sld hC hX (i + 2) rfl (nI_add i 2) (by omega) ?_
  refine g_run hC 1 rfl ?_
  have ho := c_L_add hW (dA := dA) (D := D) (sa := sa) (l := l) h.1 (c_X2_add hW hfl h hB.1.1 hB.2.2.2.2.1 ((xs (i + 1))) ((xs (i + 2)))) (by rintro r hp1 ⟨k, -, -, -, rfl, -, hF⟩; exact ⟨_, f0, rfl, (hF 65 (by decide)).trans h65⟩) (by
    rintro E hp1 ⟨⟨-, rfl⟩ | ⟨-, -, rfl⟩, -⟩
    · exact Or.inl rfl
    · exact Or.inr (rfl))
  refine g_callH hC hN hNC [.ref 0, .int (xs (i + 1)), .int (xs (i + 2)), .ref 65] ho rfl MH_add rfl (len_of rfl) (by decide) ⟨by have := hfc.1; show cells + 1 ≤ _; omega, by have := hfc.2; show slots + 6 ≤ _; omega⟩ ?_
  intro r1 hpw hw
  obtain ⟨kc, hkc, rfl, hm2, K2⟩ := t_add h hm h65 hB hw
  refine g_run hC 6 rfl ?_
  refine g_sld hC hX (i + 1) rfl (nI_add i 1) (by omega) ?_
  refine g_run hC 4 rfl ?_
  refine g_sld hC hX (i + 2) rfl (nI_add i 2) (by omega) ?_
  refine g_callV hC hN [.int (xs (i + 1)), .int (xs (i + 2))] (c_X3_add hW hm2 hB.1.1 hB.2.2.2.2.1 _ _) rfl M_L_86 (hW.2 54 (by decide)) hm2.g100 rfl rfl (len_of rfl) (by decide) ⟨by have := hfc.1; show cells + 1 + 0 ≤ _; omega, by have := hfc.2; show slots + 6 + 0 ≤ _; omega⟩ ?_
  intro r2 hp2 hr2
  obtain ⟨v2, rfl, hF⟩ := K2 r2 hp2 hr2
  have hinv := hF.inv
  obtain ⟨n9, inp9, an9, li9, cl9, ex9, pr9, gt9, ki9, fi9, se9, tr9, si9, st9, nu9, wo9, fr9, f9, -, hm9, h659, -, hv9⟩ := hF
  refine g_run hC 2 rfl ?_
  refine g_callV hC hN [] (c_X3_thrown hW hm9) rfl M_L_72 (hW.2 54 (by decide)) hm9.g100 rfl rfl (len_of rfl) (by decide) ⟨by have := hfc.1; show cells + 1 + 0 + 0 ≤ _; omega, by have := hfc.2; show slots + 6 + 0 + 0 ≤ _; omega⟩ ?_
  rintro r3 hp3 ⟨rfl, rfl⟩
  refine g_run hC 1 rfl ?_
  refine g_iceq (tgt := 309) hC rfl (by decide) (fun _ => ?_) (fun z => absurd rfl z)
  refine g_run hC 1 rfl ?_
  refine g_ifne (tgt := 326) hC rfl (by decide) (fun _ => ?_) (fun z => ?_)
  · exact g_run hC 1 rfl (g_lvs (lv' := LV i) (g_widen (by show cells + 1 + 0 + 0 ≤ _; omega) (by show slots + 6 + 0 + 0 ≤ _; omega) (K _ hinv)) ⟨rfl, rfl, rfl, rfl, rfl, trivial⟩)
  · refine g_run hC 2 rfl ?_
    refine g_lld hC 0 rfl (hW.2 65 (by decide)) h659 rfl (by decide) (by decide) ?_
    refine g_run hC 3 rfl ?_
    refine g_ifeq (tgt := 326) hC rfl (by decide) (fun _ => ?_) (fun z9 => ?_)
    · exact g_run hC 1 rfl (g_lvs (lv' := LV i) (g_widen (by show cells + 1 + 0 + 0 ≤ _; omega) (by show slots + 6 + 0 + 0 ≤ _; omega) (K _ hinv)) ⟨rfl, rfl, rfl, rfl, rfl, trivial⟩)
    · exact absurd ((cmp0 _ _).mpr (hv9 ((nI_z (by omega)).mp z))) z9
set_option maxRecDepth 100000 in
set_option maxHeartbeats 2000000 in
theorem s_simulate (hC : CX p s m args meth c RL cL_law 8 (some .boolean) tb_L_law D dA ad L A) (hN : NW A sa s s.heap) (hNC : NC s) (hW : KF ad L) (hfl : l.stackTraces = false) (hX : LX ad A b N xs s) {i : Nat} (hi : i + 5 ≤ N) (hI : INV hp) (hfc : cells + 5 ≤ room_1.cells ∧ slots + 30 ≤ room_1.slots) (K : ∀ hp2 : Nat → KE, INV hp2 → G p l e room_1 s m args below meth c D dA ad L A 8 (cells + 5) (slots + 30) Q hp2 868 (LV i) []) : G p l e room_1 s m args below meth c D dA ad L A 8 cells slots Q hp 329 (LV i) [] := by
  obtain ⟨n, inp, an, li, th, cl, ex, pr, gt, ki, fi, se, tr, si, st, nu, wo, fr, f0, h, hm, h65, hB⟩ := hI
  unfold LV
  refine g_run hC 5 rfl ?_
  refine g_sld hC hX (i + 1) rfl (nI_add i 1) (by omega) ?_
  refine g_run hC 1 rfl ?_
  have ho := c_L_simulate hW (dA := dA) (D := D) (sa := sa) (l := l) h.1 (c_X2_simulate hW hfl h hB.1 ((xs (i + 1)))) (by rintro r hp1 ⟨o, -, -, -, rfl, rfl⟩; exact ⟨_, f0, rfl, h65⟩) (by
    rintro E hp1 ⟨-, rfl, -⟩; rfl)
  refine g_callH hC hN hNC [.ref 0, .int (xs (i + 1)), .ref 65] ho rfl MH_simulate rfl (len_of rfl) (by decide) ⟨by have := hfc.1; show cells + 1 ≤ _; omega, by have := hfc.2; show slots + 6 ≤ _; omega⟩ ?_
  intro r1 hpw hw
  obtain ⟨kc, hkc, rfl, hm2, K2⟩ := t_simulate h hm h65 hB hw
  refine g_run hC 6 rfl ?_
  refine g_sld hC hX (i + 1) rfl (nI_add i 1) (by omega) ?_
  refine g_callV hC hN [.int (xs (i + 1))] (c_X3_simulate hW hm2 hB.1.1 hB.1.2.1 hB.2.1 hB.1.2.2 _) rfl M_L_90 (hW.2 54 (by decide)) hm2.g100 rfl rfl (len_of rfl) (by decide) ⟨by have := hfc.1; show cells + 1 + 0 ≤ _; omega, by have := hfc.2; show slots + 6 + 0 ≤ _; omega⟩ ?_
  intro r2 hp2 hr2
  obtain ⟨v2, rfl, hF⟩ := K2 r2 hp2 hr2
  have hinv := hF.inv
  obtain ⟨n9, inp9, an9, li9, cl9, ex9, pr9, gt9, ki9, fi9, se9, tr9, si9, st9, nu9, wo9, fr9, f9, -, hm9, h659, -, hv9⟩ := hF
  refine g_run hC 2 rfl ?_
  refine g_callV hC hN [] (c_X3_thrown hW hm9) rfl M_L_72 (hW.2 54 (by decide)) hm9.g100 rfl rfl (len_of rfl) (by decide) ⟨by have := hfc.1; show cells + 1 + 0 + 0 ≤ _; omega, by have := hfc.2; show slots + 6 + 0 + 0 ≤ _; omega⟩ ?_
  rintro r3 hp3 ⟨rfl, rfl⟩
  refine g_run hC 1 rfl ?_
  refine g_iceq (tgt := 365) hC rfl (by decide) (fun _ => ?_) (fun z => absurd rfl z)
  refine g_run hC 1 rfl ?_
  refine g_ifne (tgt := 382) hC rfl (by decide) (fun _ => ?_) (fun z => ?_)
  · exact g_run hC 1 rfl (g_lvs (lv' := LV i) (g_widen (by show cells + 1 + 0 + 0 ≤ _; omega) (by show slots + 6 + 0 + 0 ≤ _; omega) (K _ hinv)) ⟨rfl, rfl, rfl, rfl, rfl, trivial⟩)
  · refine g_run hC 2 rfl ?_
    refine g_lld hC 0 rfl (hW.2 65 (by decide)) h659 rfl (by decide) (by decide) ?_
    refine g_run hC 3 rfl ?_
    refine g_ifeq (tgt := 382) hC rfl (by decide) (fun _ => ?_) (fun z9 => ?_)
    · exact g_run hC 1 rfl (g_lvs (lv' := LV i) (g_widen (by show cells + 1 + 0 + 0 ≤ _; omega) (by show slots + 6 + 0 + 0 ≤ _; omega) (K _ hinv)) ⟨rfl, rfl, rfl, rfl, rfl, trivial⟩)
    · exact absurd ((cmp0 _ _).mpr (hv9 ((nI_z (by omega)).mp z))) z9
set_option maxRecDepth 100000 in
set_option maxHeartbeats 2000000 in
theorem s_evaluate (hC : CX p s m args meth c RL cL_law 8 (some .boolean) tb_L_law D dA ad L A) (hN : NW A sa s s.heap) (hNC : NC s) (hW : KF ad L) (hfl : l.stackTraces = false) (hX : LX ad A b N xs s) {i : Nat} (hi : i + 5 ≤ N) (hI : INV hp) (hfc : cells + 5 ≤ room_1.cells ∧ slots + 30 ≤ room_1.slots) (K : ∀ hp2 : Nat → KE, INV hp2 → G p l e room_1 s m args below meth c D dA ad L A 8 (cells + 5) (slots + 30) Q hp2 868 (LV i) []) : G p l e room_1 s m args below meth c D dA ad L A 8 cells slots Q hp 385 (LV i) [] := by
  obtain ⟨n, inp, an, li, th, cl, ex, pr, gt, ki, fi, se, tr, si, st, nu, wo, fr, f0, h, hm, h65, hB⟩ := hI
  unfold LV
  refine g_run hC 5 rfl ?_
  refine g_sld hC hX (i + 1) rfl (nI_add i 1) (by omega) ?_
  refine g_run hC 1 rfl ?_
  have ho := c_L_evaluate hW (dA := dA) (D := D) (sa := sa) (l := l) h.1 (c_X2_evaluate hW hfl h hB.1 ((xs (i + 1)))) (by rintro r hp1 ⟨o, -, -, -, rfl, rfl⟩; exact ⟨_, f0, rfl, h65⟩) (by
    rintro E hp1 ⟨-, rfl, -⟩; rfl)
  refine g_callH hC hN hNC [.ref 0, .int (xs (i + 1)), .ref 65] ho rfl MH_evaluate rfl (len_of rfl) (by decide) ⟨by have := hfc.1; show cells + 1 ≤ _; omega, by have := hfc.2; show slots + 6 ≤ _; omega⟩ ?_
  intro r1 hpw hw
  obtain ⟨kc, hkc, rfl, hm2, K2⟩ := t_evaluate h hm h65 hB hw
  refine g_run hC 6 rfl ?_
  refine g_sld hC hX (i + 1) rfl (nI_add i 1) (by omega) ?_
  refine g_callV hC hN [.int (xs (i + 1))] (c_X3_evaluate hW hm2 hB.1.1 hB.1.2.1 hB.2.1 hB.1.2.2 _) rfl M_L_93 (hW.2 54 (by decide)) hm2.g100 rfl rfl (len_of rfl) (by decide) ⟨by have := hfc.1; show cells + 1 + 0 ≤ _; omega, by have := hfc.2; show slots + 6 + 0 ≤ _; omega⟩ ?_
  intro r2 hp2 hr2
  obtain ⟨v2, rfl, hF⟩ := K2 r2 hp2 hr2
  have hinv := hF.inv
  obtain ⟨n9, inp9, an9, li9, cl9, ex9, pr9, gt9, ki9, fi9, se9, tr9, si9, st9, nu9, wo9, fr9, f9, -, hm9, h659, -, hv9⟩ := hF
  refine g_run hC 2 rfl ?_
  refine g_callV hC hN [] (c_X3_thrown hW hm9) rfl M_L_72 (hW.2 54 (by decide)) hm9.g100 rfl rfl (len_of rfl) (by decide) ⟨by have := hfc.1; show cells + 1 + 0 + 0 ≤ _; omega, by have := hfc.2; show slots + 6 + 0 + 0 ≤ _; omega⟩ ?_
  rintro r3 hp3 ⟨rfl, rfl⟩
  refine g_run hC 1 rfl ?_
  refine g_iceq (tgt := 421) hC rfl (by decide) (fun _ => ?_) (fun z => absurd rfl z)
  refine g_run hC 1 rfl ?_
  refine g_ifne (tgt := 437) hC rfl (by decide) (fun _ => ?_) (fun z => ?_)
  · exact g_run hC 1 rfl (g_lvs (lv' := LV i) (g_widen (by show cells + 1 + 0 + 0 ≤ _; omega) (by show slots + 6 + 0 + 0 ≤ _; omega) (K _ hinv)) ⟨rfl, rfl, rfl, rfl, rfl, trivial⟩)
  · refine g_run hC 2 rfl ?_
    refine g_lld hC 0 rfl (hW.2 65 (by decide)) h659 rfl (by decide) (by decide) ?_
    refine g_run hC 2 rfl ?_
    refine g_ifeq (tgt := 437) hC rfl (by decide) (fun _ => ?_) (fun z9 => ?_)
    · exact g_run hC 1 rfl (g_lvs (lv' := LV i) (g_widen (by show cells + 1 + 0 + 0 ≤ _; omega) (by show slots + 6 + 0 + 0 ≤ _; omega) (K _ hinv)) ⟨rfl, rfl, rfl, rfl, rfl, trivial⟩)
    · exact absurd ((cmp0 _ _).mpr (hv9 ((nI_z (by omega)).mp z))) z9
set_option maxRecDepth 100000 in
set_option maxHeartbeats 2000000 in
theorem s_prove (hC : CX p s m args meth c RL cL_law 8 (some .boolean) tb_L_law D dA ad L A) (hN : NW A sa s s.heap) (hNC : NC s) (hW : KF ad L) (hfl : l.stackTraces = false) (hX : LX ad A b N xs s) {i : Nat} (hi : i + 5 ≤ N) (hI : INV hp) (hfc : cells + 5 ≤ room_1.cells ∧ slots + 30 ≤ room_1.slots) (K : ∀ hp2 : Nat → KE, INV hp2 → G p l e room_1 s m args below meth c D dA ad L A 8 (cells + 5) (slots + 30) Q hp2 868 (LV i) []) : G p l e room_1 s m args below meth c D dA ad L A 8 cells slots Q hp 440 (LV i) [] := by
  obtain ⟨n, inp, an, li, th, cl, ex, pr, gt, ki, fi, se, tr, si, st, nu, wo, fr, f0, h, hm, h65, hB⟩ := hI
  unfold LV
  refine g_run hC 2 rfl ?_
  have ho := c_L_prove hW (dA := dA) (D := D) (sa := sa) (l := l) h.1 (c_X2_prove hW hfl h hB.1) (by rintro r hp1 ⟨last, pr2, -, -, rfl, -, hF⟩; exact ⟨_, f0, rfl, (hF 65 (by decide)).trans h65⟩) (by
    rintro E hp1 ⟨last, pr2, -, rfl, -⟩; rfl)
  refine g_callH hC hN hNC [.ref 0, .ref 65] ho rfl MH_prove rfl (len_of rfl) (by decide) ⟨by have := hfc.1; show cells + 1 ≤ _; omega, by have := hfc.2; show slots + 6 ≤ _; omega⟩ ?_
  intro r1 hpw hw
  obtain ⟨kc, hkc, rfl, hm2, K2⟩ := t_prove h hm h65 hB hw
  refine g_run hC 2 rfl ?_
  refine g_callV hC hN [] (c_X3_prove hW hm2 hB.1.1 hB.2.1 hB.1.2.2 hB.2.2.1 (Nat.le_trans hB.2.2.2.1 hB.2.2.2.2.1)) rfl M_L_96 (hW.2 54 (by decide)) hm2.g100 rfl rfl (len_of rfl) (by decide) ⟨by have := hfc.1; show cells + 1 + 0 ≤ _; omega, by have := hfc.2; show slots + 6 + 0 ≤ _; omega⟩ ?_
  intro r2 hp2 hr2
  obtain ⟨v2, rfl, hF⟩ := K2 r2 hp2 hr2
  have hinv := hF.inv
  obtain ⟨n9, inp9, an9, li9, cl9, ex9, pr9, gt9, ki9, fi9, se9, tr9, si9, st9, nu9, wo9, fr9, f9, -, hm9, h659, -, hv9⟩ := hF
  refine g_run hC 2 rfl ?_
  refine g_callV hC hN [] (c_X3_thrown hW hm9) rfl M_L_72 (hW.2 54 (by decide)) hm9.g100 rfl rfl (len_of rfl) (by decide) ⟨by have := hfc.1; show cells + 1 + 0 + 0 ≤ _; omega, by have := hfc.2; show slots + 6 + 0 + 0 ≤ _; omega⟩ ?_
  rintro r3 hp3 ⟨rfl, rfl⟩
  refine g_run hC 1 rfl ?_
  refine g_iceq (tgt := 464) hC rfl (by decide) (fun _ => ?_) (fun z => absurd rfl z)
  refine g_run hC 1 rfl ?_
  refine g_ifne (tgt := 481) hC rfl (by decide) (fun _ => ?_) (fun z => ?_)
  · exact g_run hC 1 rfl (g_lvs (lv' := LV i) (g_widen (by show cells + 1 + 0 + 0 ≤ _; omega) (by show slots + 6 + 0 + 0 ≤ _; omega) (K _ hinv)) ⟨rfl, rfl, rfl, rfl, rfl, trivial⟩)
  · refine g_run hC 2 rfl ?_
    refine g_lld hC 0 rfl (hW.2 65 (by decide)) h659 rfl (by decide) (by decide) ?_
    refine g_run hC 3 rfl ?_
    refine g_ifeq (tgt := 481) hC rfl (by decide) (fun _ => ?_) (fun z9 => ?_)
    · exact g_run hC 1 rfl (g_lvs (lv' := LV i) (g_widen (by show cells + 1 + 0 + 0 ≤ _; omega) (by show slots + 6 + 0 + 0 ≤ _; omega) (K _ hinv)) ⟨rfl, rfl, rfl, rfl, rfl, trivial⟩)
    · exact absurd ((cmp0 _ _).mpr (hv9 ((nI_z (by omega)).mp z))) z9
set_option maxRecDepth 100000 in
set_option maxHeartbeats 2000000 in
theorem s_lines (hC : CX p s m args meth c RL cL_law 8 (some .boolean) tb_L_law D dA ad L A) (hN : NW A sa s s.heap) (hNC : NC s) (hW : KF ad L) (hfl : l.stackTraces = false) (hX : LX ad A b N xs s) {i : Nat} (hi : i + 5 ≤ N) (hI : INV hp) (hfc : cells + 5 ≤ room_1.cells ∧ slots + 30 ≤ room_1.slots) (K : ∀ hp2 : Nat → KE, INV hp2 → G p l e room_1 s m args below meth c D dA ad L A 8 (cells + 5) (slots + 30) Q hp2 868 (LV i) []) : G p l e room_1 s m args below meth c D dA ad L A 8 cells slots Q hp 484 (LV i) [] := by
  obtain ⟨n, inp, an, li, th, cl, ex, pr, gt, ki, fi, se, tr, si, st, nu, wo, fr, f0, h, hm, h65, hB⟩ := hI
  unfold LV
  refine g_run hC 1 rfl ?_
  refine g_callV hC hN [] (c_X2_lines hW h) rfl M_L_97 (hW.2 0 (by decide)) h.1 rfl rfl (len_of rfl) (by decide) ⟨by have := hfc.1; show cells + 0 ≤ _; omega, by have := hfc.2; show slots + 0 ≤ _; omega⟩ ?_
  rintro r1 hp1 ⟨rfl, rfl⟩
  refine g_run hC 1 rfl ?_
  refine g_callV hC hN [] (c_X3_lines hW hm) rfl M_L_100 (hW.2 54 (by decide)) hm.g100 rfl rfl (len_of rfl) (by decide) ⟨by have := hfc.1; show cells + 0 + 0 ≤ _; omega, by have := hfc.2; show slots + 0 + 0 ≤ _; omega⟩ ?_
  rintro r2 hp2 ⟨rfl, hM, hFM⟩
  refine g_iceq (tgt := 868) hC rfl (by decide) (fun _ => ?_) (fun z => absurd rfl z)
  exact g_widen (by show cells + 0 + 0 ≤ _; omega) (by show slots + 0 + 0 ≤ _; omega) (K hp2 (mkinv (h.fm hFM) hM (hFM.o65 h65) hB))
set_option maxRecDepth 100000 in
set_option maxHeartbeats 2000000 in
theorem s_size (hC : CX p s m args meth c RL cL_law 8 (some .boolean) tb_L_law D dA ad L A) (hN : NW A sa s s.heap) (hNC : NC s) (hW : KF ad L) (hfl : l.stackTraces = false) (hX : LX ad A b N xs s) {i : Nat} (hi : i + 5 ≤ N) (hI : INV hp) (hfc : cells + 5 ≤ room_1.cells ∧ slots + 30 ≤ room_1.slots) (K : ∀ hp2 : Nat → KE, INV hp2 → G p l e room_1 s m args below meth c D dA ad L A 8 (cells + 5) (slots + 30) Q hp2 868 (LV i) []) : G p l e room_1 s m args below meth c D dA ad L A 8 cells slots Q hp 497 (LV i) [] := by
  obtain ⟨n, inp, an, li, th, cl, ex, pr, gt, ki, fi, se, tr, si, st, nu, wo, fr, f0, h, hm, h65, hB⟩ := hI
  unfold LV
  refine g_run hC 5 rfl ?_
  refine g_sld hC hX (i + 1) rfl (nI_add i 1) (by omega) ?_
  refine g_run hC 1 rfl ?_
  have ho := c_L_size hW (dA := dA) (D := D) (sa := sa) (l := l) h.1 (c_X2_size hW hfl h hB.li10 ((xs (i + 1)))) (by rintro r hp1 ⟨k, -, -, rfl, rfl⟩; exact ⟨_, f0, rfl, h65⟩) (by
    rintro E hp1 ⟨⟨-, rfl⟩ | ⟨-, -, rfl⟩, -⟩
    · exact Or.inl rfl
    · exact Or.inr (rfl))
  refine g_callH hC hN hNC [.ref 0, .int (xs (i + 1)), .ref 65] ho rfl MH_size rfl (len_of rfl) (by decide) ⟨by have := hfc.1; show cells + 2 ≤ _; omega, by have := hfc.2; show slots + 12 ≤ _; omega⟩ ?_
  intro r1 hpw hw
  obtain ⟨kc, hkc, rfl, hm2, K2⟩ := t_size h hm h65 hB hw
  refine g_run hC 6 rfl ?_
  refine g_sld hC hX (i + 1) rfl (nI_add i 1) (by omega) ?_
  refine g_callV hC hN [.int (xs (i + 1))] (c_X3_size hW hm2 hB.li10 _) rfl M_L_103 (hW.2 54 (by decide)) hm2.g100 rfl rfl (len_of rfl) (by decide) ⟨by have := hfc.1; show cells + 2 + 0 ≤ _; omega, by have := hfc.2; show slots + 12 + 0 ≤ _; omega⟩ ?_
  intro r2 hp2 hr2
  obtain ⟨v2, rfl, hF⟩ := K2 r2 hp2 hr2
  have hinv := hF.inv
  obtain ⟨n9, inp9, an9, li9, cl9, ex9, pr9, gt9, ki9, fi9, se9, tr9, si9, st9, nu9, wo9, fr9, f9, -, hm9, h659, -, hv9⟩ := hF
  refine g_run hC 2 rfl ?_
  refine g_callV hC hN [] (c_X3_thrown hW hm9) rfl M_L_72 (hW.2 54 (by decide)) hm9.g100 rfl rfl (len_of rfl) (by decide) ⟨by have := hfc.1; show cells + 2 + 0 + 0 ≤ _; omega, by have := hfc.2; show slots + 12 + 0 + 0 ≤ _; omega⟩ ?_
  rintro r3 hp3 ⟨rfl, rfl⟩
  refine g_run hC 1 rfl ?_
  refine g_iceq (tgt := 533) hC rfl (by decide) (fun _ => ?_) (fun z => absurd rfl z)
  refine g_run hC 1 rfl ?_
  refine g_ifne (tgt := 550) hC rfl (by decide) (fun _ => ?_) (fun z => ?_)
  · exact g_run hC 1 rfl (g_lvs (lv' := LV i) (g_widen (by show cells + 2 + 0 + 0 ≤ _; omega) (by show slots + 12 + 0 + 0 ≤ _; omega) (K _ hinv)) ⟨rfl, rfl, rfl, rfl, rfl, trivial⟩)
  · refine g_run hC 2 rfl ?_
    refine g_lld hC 0 rfl (hW.2 65 (by decide)) h659 rfl (by decide) (by decide) ?_
    refine g_run hC 3 rfl ?_
    refine g_ifeq (tgt := 550) hC rfl (by decide) (fun _ => ?_) (fun z9 => ?_)
    · exact g_run hC 1 rfl (g_lvs (lv' := LV i) (g_widen (by show cells + 2 + 0 + 0 ≤ _; omega) (by show slots + 12 + 0 + 0 ≤ _; omega) (K _ hinv)) ⟨rfl, rfl, rfl, rfl, rfl, trivial⟩)
    · exact absurd ((cmp0 _ _).mpr (hv9 ((nI_z (by omega)).mp z))) z9
set_option maxRecDepth 100000 in
set_option maxHeartbeats 2000000 in
theorem s_monomial (hC : CX p s m args meth c RL cL_law 8 (some .boolean) tb_L_law D dA ad L A) (hN : NW A sa s s.heap) (hNC : NC s) (hW : KF ad L) (hfl : l.stackTraces = false) (hX : LX ad A b N xs s) {i : Nat} (hi : i + 5 ≤ N) (hI : INV hp) (hfc : cells + 5 ≤ room_1.cells ∧ slots + 30 ≤ room_1.slots) (K : ∀ hp2 : Nat → KE, INV hp2 → G p l e room_1 s m args below meth c D dA ad L A 8 (cells + 5) (slots + 30) Q hp2 868 (LV i) []) : G p l e room_1 s m args below meth c D dA ad L A 8 cells slots Q hp 553 (LV i) [] := by
  obtain ⟨n, inp, an, li, th, cl, ex, pr, gt, ki, fi, se, tr, si, st, nu, wo, fr, f0, h, hm, h65, hB⟩ := hI
  unfold LV
  refine g_run hC 5 rfl ?_
  refine g_sld hC hX (i + 1) rfl (nI_add i 1) (by omega) ?_
  refine g_run hC 4 rfl ?_
  refine g_sld hC hX (i + 2) rfl (nI_add i 2) (by omega) ?_
  refine g_run hC 1 rfl ?_
  have ho := c_L_monomial hW (dA := dA) (D := D) (sa := sa) (l := l) h.1 (c_X2_monomial hW hfl h hB.li10 ((xs (i + 1))) ((xs (i + 2)))) (by rintro r hp1 ⟨k, i, -, -, -, -, rfl, rfl⟩; exact ⟨_, f0, rfl, h65⟩) (by
    rintro E hp1 ⟨(⟨-, rfl⟩ | ⟨-, -, rfl⟩) | ⟨k, -, -, -, rfl⟩, -⟩
    · exact Or.inl rfl
    · exact Or.inr (rfl)
    · exact Or.inr (rfl))
  refine g_callH hC hN hNC [.ref 0, .int (xs (i + 1)), .int (xs (i + 2)), .ref 65] ho rfl MH_monomial rfl (len_of rfl) (by decide) ⟨by have := hfc.1; show cells + 3 ≤ _; omega, by have := hfc.2; show slots + 18 ≤ _; omega⟩ ?_
  intro r1 hpw hw
  obtain ⟨kc, hkc, rfl, hm2, K2⟩ := t_monomial h hm h65 hB hw
  refine g_run hC 6 rfl ?_
  refine g_sld hC hX (i + 1) rfl (nI_add i 1) (by omega) ?_
  refine g_run hC 4 rfl ?_
  refine g_sld hC hX (i + 2) rfl (nI_add i 2) (by omega) ?_
  refine g_callV hC hN [.int (xs (i + 1)), .int (xs (i + 2))] (c_X3_monomial hW hm2 hB.1.1 hB.li10 (fun k hk => (hB.2.2.2.2.2.1 k hk).1) _ _) rfl M_L_106 (hW.2 54 (by decide)) hm2.g100 rfl rfl (len_of rfl) (by decide) ⟨by have := hfc.1; show cells + 3 + 0 ≤ _; omega, by have := hfc.2; show slots + 18 + 0 ≤ _; omega⟩ ?_
  intro r2 hp2 hr2
  obtain ⟨v2, rfl, hF⟩ := K2 r2 hp2 hr2
  have hinv := hF.inv
  obtain ⟨n9, inp9, an9, li9, cl9, ex9, pr9, gt9, ki9, fi9, se9, tr9, si9, st9, nu9, wo9, fr9, f9, -, hm9, h659, -, hv9⟩ := hF
  refine g_run hC 2 rfl ?_
  refine g_callV hC hN [] (c_X3_thrown hW hm9) rfl M_L_72 (hW.2 54 (by decide)) hm9.g100 rfl rfl (len_of rfl) (by decide) ⟨by have := hfc.1; show cells + 3 + 0 + 0 ≤ _; omega, by have := hfc.2; show slots + 18 + 0 + 0 ≤ _; omega⟩ ?_
  rintro r3 hp3 ⟨rfl, rfl⟩
  refine g_run hC 1 rfl ?_
  refine g_iceq (tgt := 601) hC rfl (by decide) (fun _ => ?_) (fun z => absurd rfl z)
  refine g_run hC 1 rfl ?_
  refine g_ifne (tgt := 618) hC rfl (by decide) (fun _ => ?_) (fun z => ?_)
  · exact g_run hC 1 rfl (g_lvs (lv' := LV i) (g_widen (by show cells + 3 + 0 + 0 ≤ _; omega) (by show slots + 18 + 0 + 0 ≤ _; omega) (K _ hinv)) ⟨rfl, rfl, rfl, rfl, rfl, trivial⟩)
  · refine g_run hC 2 rfl ?_
    refine g_lld hC 0 rfl (hW.2 65 (by decide)) h659 rfl (by decide) (by decide) ?_
    refine g_run hC 3 rfl ?_
    refine g_ifeq (tgt := 618) hC rfl (by decide) (fun _ => ?_) (fun z9 => ?_)
    · exact g_run hC 1 rfl (g_lvs (lv' := LV i) (g_widen (by show cells + 3 + 0 + 0 ≤ _; omega) (by show slots + 18 + 0 + 0 ≤ _; omega) (K _ hinv)) ⟨rfl, rfl, rfl, rfl, rfl, trivial⟩)
    · exact absurd ((cmp0 _ _).mpr (hv9 ((nI_z (by omega)).mp z))) z9
set_option maxRecDepth 100000 in
set_option maxHeartbeats 2000000 in
theorem s_coefficient (hC : CX p s m args meth c RL cL_law 8 (some .boolean) tb_L_law D dA ad L A) (hN : NW A sa s s.heap) (hNC : NC s) (hW : KF ad L) (hfl : l.stackTraces = false) (hX : LX ad A b N xs s) {i : Nat} (hi : i + 5 ≤ N) (hI : INV hp) (hfc : cells + 5 ≤ room_1.cells ∧ slots + 30 ≤ room_1.slots) (K : ∀ hp2 : Nat → KE, INV hp2 → G p l e room_1 s m args below meth c D dA ad L A 8 (cells + 5) (slots + 30) Q hp2 868 (LV i) []) : G p l e room_1 s m args below meth c D dA ad L A 8 cells slots Q hp 621 (LV i) [] := by
  obtain ⟨n, inp, an, li, th, cl, ex, pr, gt, ki, fi, se, tr, si, st, nu, wo, fr, f0, h, hm, h65, hB⟩ := hI
  unfold LV
  refine g_run hC 5 rfl ?_
  refine g_sld hC hX (i + 1) rfl (nI_add i 1) (by omega) ?_
  refine g_run hC 4 rfl ?_
  refine g_sld hC hX (i + 2) rfl (nI_add i 2) (by omega) ?_
  refine g_run hC 1 rfl ?_
  have ho := c_L_coefficient hW (dA := dA) (D := D) (sa := sa) (l := l) h.1 (c_X2_coefficient hW hfl h hB.li10 hB.1.1 ((xs (i + 1))) ((xs (i + 2)))) (by rintro r hp1 ⟨k, i, -, -, -, -, rfl, rfl⟩; exact ⟨_, f0, rfl, h65⟩) (by
    rintro E hp1 ⟨(⟨-, rfl⟩ | ⟨-, -, rfl⟩) | ⟨-, -, rfl⟩, -⟩
    · exact Or.inl rfl
    · exact Or.inr (rfl)
    · exact Or.inr (rfl))
  refine g_callH hC hN hNC [.ref 0, .int (xs (i + 1)), .int (xs (i + 2)), .ref 65] ho rfl MH_coefficient rfl (len_of rfl) (by decide) ⟨by have := hfc.1; show cells + 3 ≤ _; omega, by have := hfc.2; show slots + 18 ≤ _; omega⟩ ?_
  intro r1 hpw hw
  obtain ⟨kc, hkc, rfl, hm2, K2⟩ := t_coefficient h hm h65 hB hw
  refine g_run hC 6 rfl ?_
  refine g_sld hC hX (i + 1) rfl (nI_add i 1) (by omega) ?_
  refine g_run hC 4 rfl ?_
  refine g_sld hC hX (i + 2) rfl (nI_add i 2) (by omega) ?_
  refine g_callV hC hN [.int (xs (i + 1)), .int (xs (i + 2))] (c_X3_coefficient hW hm2 hB.1.1 hB.li10 (fun k hk => (hB.2.2.2.2.2.1 k hk).1) _ _) rfl M_L_109 (hW.2 54 (by decide)) hm2.g100 rfl rfl (len_of rfl) (by decide) ⟨by have := hfc.1; show cells + 3 + 0 ≤ _; omega, by have := hfc.2; show slots + 18 + 0 ≤ _; omega⟩ ?_
  intro r2 hp2 hr2
  obtain ⟨v2, rfl, hF⟩ := K2 r2 hp2 hr2
  have hinv := hF.inv
  obtain ⟨n9, inp9, an9, li9, cl9, ex9, pr9, gt9, ki9, fi9, se9, tr9, si9, st9, nu9, wo9, fr9, f9, -, hm9, h659, -, hv9⟩ := hF
  refine g_run hC 2 rfl ?_
  refine g_callV hC hN [] (c_X3_thrown hW hm9) rfl M_L_72 (hW.2 54 (by decide)) hm9.g100 rfl rfl (len_of rfl) (by decide) ⟨by have := hfc.1; show cells + 3 + 0 + 0 ≤ _; omega, by have := hfc.2; show slots + 18 + 0 + 0 ≤ _; omega⟩ ?_
  rintro r3 hp3 ⟨rfl, rfl⟩
  refine g_run hC 1 rfl ?_
  refine g_iceq (tgt := 669) hC rfl (by decide) (fun _ => ?_) (fun z => absurd rfl z)
  refine g_run hC 1 rfl ?_
  refine g_ifne (tgt := 685) hC rfl (by decide) (fun _ => ?_) (fun z => ?_)
  · exact g_run hC 1 rfl (g_lvs (lv' := LV i) (g_widen (by show cells + 3 + 0 + 0 ≤ _; omega) (by show slots + 18 + 0 + 0 ≤ _; omega) (K _ hinv)) ⟨rfl, rfl, rfl, rfl, rfl, trivial⟩)
  · refine g_run hC 2 rfl ?_
    refine g_lld hC 0 rfl (hW.2 65 (by decide)) h659 rfl (by decide) (by decide) ?_
    refine g_run hC 2 rfl ?_
    refine g_ifeq (tgt := 685) hC rfl (by decide) (fun _ => ?_) (fun z9 => ?_)
    · exact g_run hC 1 rfl (g_lvs (lv' := LV i) (g_widen (by show cells + 3 + 0 + 0 ≤ _; omega) (by show slots + 18 + 0 + 0 ≤ _; omega) (K _ hinv)) ⟨rfl, rfl, rfl, rfl, rfl, trivial⟩)
    · exact absurd ((cmp0 _ _).mpr (hv9 ((nI_z (by omega)).mp z))) z9
set_option maxRecDepth 100000 in
set_option maxHeartbeats 2000000 in
theorem s_spoil (hC : CX p s m args meth c RL cL_law 8 (some .boolean) tb_L_law D dA ad L A) (hN : NW A sa s s.heap) (hNC : NC s) (hW : KF ad L) (hfl : l.stackTraces = false) (hX : LX ad A b N xs s) {i : Nat} (hi : i + 5 ≤ N) (hI : INV hp) (hfc : cells + 5 ≤ room_1.cells ∧ slots + 30 ≤ room_1.slots) (K : ∀ hp2 : Nat → KE, INV hp2 → G p l e room_1 s m args below meth c D dA ad L A 8 (cells + 5) (slots + 30) Q hp2 868 (LV i) []) : G p l e room_1 s m args below meth c D dA ad L A 8 cells slots Q hp 688 (LV i) [] := by
  obtain ⟨n, inp, an, li, th, cl, ex, pr, gt, ki, fi, se, tr, si, st, nu, wo, fr, f0, h, hm, h65, hB⟩ := hI
  unfold LV
  refine g_run hC 5 rfl ?_
  refine g_sld hC hX (i + 1) rfl (nI_add i 1) (by omega) ?_
  refine g_run hC 4 rfl ?_
  refine g_sld hC hX (i + 2) rfl (nI_add i 2) (by omega) ?_
  refine g_run hC 4 rfl ?_
  refine g_sld hC hX (i + 3) rfl (nI_add i 3) (by omega) ?_
  refine g_run hC 1 rfl ?_
  have ho := c_L_spoil hW (dA := dA) (D := D) (sa := sa) (l := l) h.1 (c_X2_spoil hW hfl h hB.li10 hB.1.1 ((xs (i + 1))) ((xs (i + 2))) ((xs (i + 3)))) (by rintro r hp1 ⟨k, i, -, -, -, -, -, rfl, -, hF⟩; exact ⟨_, f0, rfl, (hF 65 (by decide)).trans h65⟩) (by
    rintro E hp1 ⟨(⟨-, rfl⟩ | ⟨-, -, rfl⟩) | ⟨-, -, rfl⟩ | ⟨k, i, -, -, -, -, -, rfl⟩, -⟩
    · exact Or.inl rfl
    · exact Or.inr (Or.inl rfl)
    · exact Or.inr (Or.inl rfl)
    · exact Or.inr (Or.inr (rfl)))
  refine g_callH hC hN hNC [.ref 0, .int (xs (i + 1)), .int (xs (i + 2)), .int (xs (i + 3)), .ref 65] ho rfl MH_spoil rfl (len_of rfl) (by decide) ⟨by have := hfc.1; show cells + 4 ≤ _; omega, by have := hfc.2; show slots + 24 ≤ _; omega⟩ ?_
  intro r1 hpw hw
  obtain ⟨kc, hkc, rfl, hm2, K2⟩ := t_spoil h hm h65 hB hw
  refine g_run hC 6 rfl ?_
  refine g_sld hC hX (i + 1) rfl (nI_add i 1) (by omega) ?_
  refine g_run hC 4 rfl ?_
  refine g_sld hC hX (i + 2) rfl (nI_add i 2) (by omega) ?_
  refine g_run hC 4 rfl ?_
  refine g_sld hC hX (i + 3) rfl (nI_add i 3) (by omega) ?_
  refine g_callV hC hN [.int (xs (i + 1)), .int (xs (i + 2)), .int (xs (i + 3))] (c_X3_spoil hW hm2 hB.1.1 hB.li10 (fun k hk => (hB.2.2.2.2.2.1 k hk).1) _ _ _) rfl M_L_113 (hW.2 54 (by decide)) hm2.g100 rfl rfl (len_of rfl) (by decide) ⟨by have := hfc.1; show cells + 4 + 0 ≤ _; omega, by have := hfc.2; show slots + 24 + 0 ≤ _; omega⟩ ?_
  intro r2 hp2 hr2
  obtain ⟨v2, rfl, hF⟩ := K2 r2 hp2 hr2
  have hinv := hF.inv
  obtain ⟨n9, inp9, an9, li9, cl9, ex9, pr9, gt9, ki9, fi9, se9, tr9, si9, st9, nu9, wo9, fr9, f9, -, hm9, h659, -, hv9⟩ := hF
  refine g_run hC 2 rfl ?_
  refine g_callV hC hN [] (c_X3_thrown hW hm9) rfl M_L_72 (hW.2 54 (by decide)) hm9.g100 rfl rfl (len_of rfl) (by decide) ⟨by have := hfc.1; show cells + 4 + 0 + 0 ≤ _; omega, by have := hfc.2; show slots + 24 + 0 + 0 ≤ _; omega⟩ ?_
  rintro r3 hp3 ⟨rfl, rfl⟩
  refine g_run hC 1 rfl ?_
  refine g_iceq (tgt := 748) hC rfl (by decide) (fun _ => ?_) (fun z => absurd rfl z)
  refine g_run hC 1 rfl ?_
  refine g_ifne (tgt := 764) hC rfl (by decide) (fun _ => ?_) (fun z => ?_)
  · exact g_run hC 1 rfl (g_lvs (lv' := LV i) (g_widen (by show cells + 4 + 0 + 0 ≤ _; omega) (by show slots + 24 + 0 + 0 ≤ _; omega) (K _ hinv)) ⟨rfl, rfl, rfl, rfl, rfl, trivial⟩)
  · refine g_run hC 2 rfl ?_
    refine g_lld hC 0 rfl (hW.2 65 (by decide)) h659 rfl (by decide) (by decide) ?_
    refine g_run hC 2 rfl ?_
    refine g_ifeq (tgt := 764) hC rfl (by decide) (fun _ => ?_) (fun z9 => ?_)
    · exact g_run hC 1 rfl (g_lvs (lv' := LV i) (g_widen (by show cells + 4 + 0 + 0 ≤ _; omega) (by show slots + 24 + 0 + 0 ≤ _; omega) (K _ hinv)) ⟨rfl, rfl, rfl, rfl, rfl, trivial⟩)
    · exact absurd ((cmp0 _ _).mpr (hv9 ((nI_z (by omega)).mp z))) z9
set_option maxRecDepth 100000 in
set_option maxHeartbeats 2000000 in
theorem s_check (hC : CX p s m args meth c RL cL_law 8 (some .boolean) tb_L_law D dA ad L A) (hN : NW A sa s s.heap) (hNC : NC s) (hW : KF ad L) (hfl : l.stackTraces = false) (hX : LX ad A b N xs s) {i : Nat} (hi : i + 5 ≤ N) (hI : INV hp) (hfc : cells + 5 ≤ room_1.cells ∧ slots + 30 ≤ room_1.slots) (K : ∀ hp2 : Nat → KE, INV hp2 → G p l e room_1 s m args below meth c D dA ad L A 8 (cells + 5) (slots + 30) Q hp2 868 (LV i) []) : G p l e room_1 s m args below meth c D dA ad L A 8 cells slots Q hp 767 (LV i) [] := by
  obtain ⟨n, inp, an, li, th, cl, ex, pr, gt, ki, fi, se, tr, si, st, nu, wo, fr, f0, h, hm, h65, hB⟩ := hI
  unfold LV
  refine g_run hC 2 rfl ?_
  have ho := c_L_check hW (dA := dA) (D := D) (sa := sa) (l := l) h.1 (c_X2_check hW hfl h hB.1 hB.li10) (by rintro r hp1 ⟨-, rfl, -, hF⟩; exact ⟨_, f0, rfl, (hF 65 (by decide)).trans h65⟩) (by
    rintro E hp1 ⟨-, rfl, -⟩; rfl)
  refine g_callH hC hN hNC [.ref 0, .ref 65] ho rfl MH_check rfl (len_of rfl) (by decide) ⟨by have := hfc.1; show cells + 1 ≤ _; omega, by have := hfc.2; show slots + 6 ≤ _; omega⟩ ?_
  intro r1 hpw hw
  obtain ⟨kc, hkc, rfl, hm2, K2⟩ := t_check h hm h65 hB hw
  refine g_run hC 2 rfl ?_
  refine g_callV hC hN [] (c_X3_check hW hm2 hB.1.1 hB.2.1 hB.1.2.2 hB.2.2.1 (fun k hk => (hB.2.2.2.2.2.1 k hk).2) (fun k hk => (hB.2.2.2.2.2.1 k hk).1) (fun z => (hB.2.2.2.2.2.2 z).1)) rfl M_L_116 (hW.2 54 (by decide)) hm2.g100 rfl rfl (len_of rfl) (by decide) ⟨by have := hfc.1; show cells + 1 + 0 ≤ _; omega, by have := hfc.2; show slots + 6 + 0 ≤ _; omega⟩ ?_
  intro r2 hp2 hr2
  obtain ⟨v2, rfl, hF⟩ := K2 r2 hp2 hr2
  have hinv := hF.inv
  obtain ⟨n9, inp9, an9, li9, cl9, ex9, pr9, gt9, ki9, fi9, se9, tr9, si9, st9, nu9, wo9, fr9, f9, -, hm9, h659, -, hv9⟩ := hF
  refine g_run hC 2 rfl ?_
  refine g_callV hC hN [] (c_X3_thrown hW hm9) rfl M_L_72 (hW.2 54 (by decide)) hm9.g100 rfl rfl (len_of rfl) (by decide) ⟨by have := hfc.1; show cells + 1 + 0 + 0 ≤ _; omega, by have := hfc.2; show slots + 6 + 0 + 0 ≤ _; omega⟩ ?_
  rintro r3 hp3 ⟨rfl, rfl⟩
  refine g_run hC 1 rfl ?_
  refine g_iceq (tgt := 791) hC rfl (by decide) (fun _ => ?_) (fun z => absurd rfl z)
  refine g_run hC 1 rfl ?_
  refine g_ifne (tgt := 808) hC rfl (by decide) (fun _ => ?_) (fun z => ?_)
  · exact g_run hC 1 rfl (g_lvs (lv' := LV i) (g_widen (by show cells + 1 + 0 + 0 ≤ _; omega) (by show slots + 6 + 0 + 0 ≤ _; omega) (K _ hinv)) ⟨rfl, rfl, rfl, rfl, rfl, trivial⟩)
  · refine g_run hC 2 rfl ?_
    refine g_lld hC 0 rfl (hW.2 65 (by decide)) h659 rfl (by decide) (by decide) ?_
    refine g_run hC 3 rfl ?_
    refine g_ifeq (tgt := 808) hC rfl (by decide) (fun _ => ?_) (fun z9 => ?_)
    · exact g_run hC 1 rfl (g_lvs (lv' := LV i) (g_widen (by show cells + 1 + 0 + 0 ≤ _; omega) (by show slots + 6 + 0 + 0 ≤ _; omega) (K _ hinv)) ⟨rfl, rfl, rfl, rfl, rfl, trivial⟩)
    · exact absurd ((cmp0 _ _).mpr (hv9 ((nI_z (by omega)).mp z))) z9
set_option maxRecDepth 100000 in
set_option maxHeartbeats 2000000 in
theorem s_witness (hC : CX p s m args meth c RL cL_law 8 (some .boolean) tb_L_law D dA ad L A) (hN : NW A sa s s.heap) (hNC : NC s) (hW : KF ad L) (hfl : l.stackTraces = false) (hX : LX ad A b N xs s) {i : Nat} (hi : i + 5 ≤ N) (hI : INV hp) (hfc : cells + 5 ≤ room_1.cells ∧ slots + 30 ≤ room_1.slots) (K : ∀ hp2 : Nat → KE, INV hp2 → G p l e room_1 s m args below meth c D dA ad L A 8 (cells + 5) (slots + 30) Q hp2 868 (LV i) []) : G p l e room_1 s m args below meth c D dA ad L A 8 cells slots Q hp 811 (LV i) [] := by
  obtain ⟨n, inp, an, li, th, cl, ex, pr, gt, ki, fi, se, tr, si, st, nu, wo, fr, f0, h, hm, h65, hB⟩ := hI
  unfold LV
  refine g_run hC 2 rfl ?_
  have ho := c_L_witness hW (dA := dA) (D := D) (sa := sa) (l := l) h.1 (c_X2_witness hW hfl h hB.li10) (by rintro r hp1 ⟨-, -, rfl, rfl⟩; exact ⟨_, f0, rfl, h65⟩) (by
    rintro E hp1 ⟨⟨-, rfl⟩ | ⟨-, -, rfl⟩, -⟩
    · exact Or.inl rfl
    · exact Or.inr (rfl))
  refine g_callH hC hN hNC [.ref 0, .ref 65] ho rfl MH_witness rfl (len_of rfl) (by decide) ⟨by have := hfc.1; show cells + 2 ≤ _; omega, by have := hfc.2; show slots + 12 ≤ _; omega⟩ ?_
  intro r1 hpw hw
  obtain ⟨kc, hkc, rfl, hm2, K2⟩ := t_witness h hm h65 hB hw
  refine g_run hC 2 rfl ?_
  refine g_callV hC hN [] (c_X3_witness hW hm2 hB.1.1 hB.li10 (fun k hk => (hB.2.2.2.2.2.1 k hk).1)) rfl M_L_119 (hW.2 54 (by decide)) hm2.g100 rfl rfl (len_of rfl) (by decide) ⟨by have := hfc.1; show cells + 2 + 0 ≤ _; omega, by have := hfc.2; show slots + 12 + 0 ≤ _; omega⟩ ?_
  intro r2 hp2 hr2
  obtain ⟨v2, rfl, hF⟩ := K2 r2 hp2 hr2
  have hinv := hF.inv
  obtain ⟨n9, inp9, an9, li9, cl9, ex9, pr9, gt9, ki9, fi9, se9, tr9, si9, st9, nu9, wo9, fr9, f9, -, hm9, h659, -, hv9⟩ := hF
  refine g_run hC 2 rfl ?_
  refine g_callV hC hN [] (c_X3_thrown hW hm9) rfl M_L_72 (hW.2 54 (by decide)) hm9.g100 rfl rfl (len_of rfl) (by decide) ⟨by have := hfc.1; show cells + 2 + 0 + 0 ≤ _; omega, by have := hfc.2; show slots + 12 + 0 + 0 ≤ _; omega⟩ ?_
  rintro r3 hp3 ⟨rfl, rfl⟩
  refine g_run hC 1 rfl ?_
  refine g_iceq (tgt := 835) hC rfl (by decide) (fun _ => ?_) (fun z => absurd rfl z)
  refine g_run hC 1 rfl ?_
  refine g_ifne (tgt := 852) hC rfl (by decide) (fun _ => ?_) (fun z => ?_)
  · exact g_run hC 1 rfl (g_lvs (lv' := LV i) (g_widen (by show cells + 2 + 0 + 0 ≤ _; omega) (by show slots + 12 + 0 + 0 ≤ _; omega) (K _ hinv)) ⟨rfl, rfl, rfl, rfl, rfl, trivial⟩)
  · refine g_run hC 2 rfl ?_
    refine g_lld hC 0 rfl (hW.2 65 (by decide)) h659 rfl (by decide) (by decide) ?_
    refine g_run hC 3 rfl ?_
    refine g_ifeq (tgt := 852) hC rfl (by decide) (fun _ => ?_) (fun z9 => ?_)
    · exact g_run hC 1 rfl (g_lvs (lv' := LV i) (g_widen (by show cells + 2 + 0 + 0 ≤ _; omega) (by show slots + 12 + 0 + 0 ≤ _; omega) (K _ hinv)) ⟨rfl, rfl, rfl, rfl, rfl, trivial⟩)
    · exact absurd ((cmp0 _ _).mpr (hv9 ((nI_z (by omega)).mp z))) z9
set_option maxRecDepth 100000 in
set_option maxHeartbeats 2000000 in
theorem s_clear (hC : CX p s m args meth c RL cL_law 8 (some .boolean) tb_L_law D dA ad L A) (hN : NW A sa s s.heap) (hNC : NC s) (hW : KF ad L) (hfl : l.stackTraces = false) (hX : LX ad A b N xs s) {i : Nat} (hi : i + 5 ≤ N) (hI : INV hp) (hfc : cells + 5 ≤ room_1.cells ∧ slots + 30 ≤ room_1.slots) (K : ∀ hp2 : Nat → KE, INV hp2 → G p l e room_1 s m args below meth c D dA ad L A 8 (cells + 5) (slots + 30) Q hp2 868 (LV i) []) : G p l e room_1 s m args below meth c D dA ad L A 8 cells slots Q hp 855 (LV i) [] := by
  obtain ⟨n, inp, an, li, th, cl, ex, pr, gt, ki, fi, se, tr, si, st, nu, wo, fr, f0, h, hm, h65, hB⟩ := hI
  unfold LV
  refine g_run hC 1 rfl ?_
  refine g_callV hC hN [] (c_X2_clear hW h) rfl M_L_120 (hW.2 0 (by decide)) h.1 rfl rfl (len_of rfl) (by decide) ⟨by have := hfc.1; show cells + 0 ≤ _; omega, by have := hfc.2; show slots + 0 ≤ _; omega⟩ ?_
  rintro r1 hp1 ⟨rfl, hX1, hF1⟩
  refine g_run hC 1 rfl ?_
  refine g_callV hC hN [] (c_X3_clear hW (hm.fx hF1)) rfl M_L_123 (hW.2 54 (by decide)) (hm.fx hF1).g100 rfl rfl (len_of rfl) (by decide) ⟨by have := hfc.1; show cells + 0 + 0 ≤ _; omega, by have := hfc.2; show slots + 0 + 0 ≤ _; omega⟩ ?_
  rintro r2 hp2 ⟨rfl, hM, hFM⟩
  refine g_iceq (tgt := 868) hC rfl (by decide) (fun _ => ?_) (fun z => absurd rfl z)
  have ez : (fun j => if j < 512 then 0 else cl j) = fun _ : Nat => (0 : Int64) := funext fun j => by
    have h5 := p2_lt hB.1.1
    by_cases z : j < 512
    · rw [if_pos z]
    · rw [if_neg z]; exact hB.2.2.1 j (by omega)
  rw [ez] at hM
  exact g_widen (by show cells + 0 + 0 ≤ _; omega) (by show slots + 0 + 0 ≤ _; omega) (K hp2 (mkinv (hX1.fm hFM) hM (hFM.o65 ((hF1 65 (by decide)).trans h65)) BI.clear))
end
