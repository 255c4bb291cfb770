theorem NEW_X1 : NEW RX2 15 1 [.null, .int 0] := ⟨rfl, kL_X2_15, iT_X1, iN_X1, uw_1, tyX1_ok, fun j hj => by
  match j, hj with
  | 0, _ => rfl
  | 1, _ => rfl, fun v hv k e => by
  subst e
  rcases List.mem_cons.mp hv with h | hv
  · cases h
  rcases List.mem_cons.mp hv with h | hv
  · cases h
  cases hv⟩
theorem NEW_X0 : NEW RX2 9 0 [.int 0, .int 0, .int 0, .int 0, .null, .null] := ⟨rfl, kL_X2_9, iT_X0, iN_X0, uw_0, tyX0_ok, fun j hj => by
  match j, hj with
  | 0, _ => rfl
  | 1, _ => rfl
  | 2, _ => rfl
  | 3, _ => rfl
  | 4, _ => rfl
  | 5, _ => rfl, fun v hv k e => by
  subst e
  simp at hv⟩
theorem MIK_X1 : MIK yX1_init cX1_init 1 := ⟨⟨yI_X1_init, iN_X1, cd_X1_init⟩, rfl, by decide, by decide, by decide +kernel⟩
theorem MIK_X0 : MIK yX0_init cX0_init 1 := ⟨⟨yI_X0_init, iN_X0, cd_X0_init⟩, rfl, by decide, by decide, by decide +kernel⟩
section
variable {p : Program} {l : Launch} {e : Env} {R : Room} {s : State} {m : MethodId} {args : Array Value} {below : List Frame} {meth : Method} {c : Code} {D : va_G} {dA ad sa : Nat → Nat} {L : List Nat} {A : Nat → Prop} {nL cells slots : Nat} {Q : State → Prop} {hp : Nat → KE} {cc : ByteArray} {ret : Option FieldType} {tb : List (Nat × Instr × Nat)}
/-- new Polynomial() -/
theorem g_mkP (hC : CX p s m args meth c RX2 cc nL ret tb D dA ad L A) (hN : NW A sa s s.heap) {pc n2 n3 nx k n b : Nat} {L0 : List Nat} (hf : fd tb pc = some (.new 15, n2)) (hf2 : fd tb n2 = some (.dup, n3)) (hf3 : fd tb n3 = some (.invokespecial 17, nx)) (hL : L = L0 ++ nks b n) (hk9 : k = b + n) (h0 : ∀ j ∈ L0, j < k ∨ k + 2 ≤ j) (hcl : CLO L hp) {lv : List (Nat × Value)} {st : List Value} (hlv : ∀ w ∈ lv, rfV L w.2) (hst : ∀ v ∈ st, rfV L v) (hR : 2 ≤ R.frames ∧ 8 + (1 + 11) + 40 ≤ R.locals) (hw : (st.map fun v => v.category).sum ≤ 7) (hfc : cells + 2 ≤ R.cells ∧ slots + 514 ≤ R.slots)
    (kk : ∀ ad2 : Nat → Nat, (∀ j ∈ L, ad2 j = ad j) → CX p s m args meth c RX2 cc nL ret tb D dA ad2 (L0 ++ nks b (n + 2)) A → CLO (L0 ++ nks b (n + 2)) (setP hp k (fun _ => 0)) → G p l e R s m args below meth c D dA ad2 (L0 ++ nks b (n + 2)) A nL (cells + 2) (slots + 514) Q (setP hp k (fun _ => 0)) nx lv (.ref k :: st)) : G p l e R s m args below meth c D dA ad L A nL cells slots Q hp pc lv st := by
  subst hL
  subst hk9
  have hnd := hC.2.2.2.2.2.2.1
  have f1 : ∀ j, j ∈ L0 ++ nks b n → j < b + n ∨ b + n + 2 ≤ j := fun j hj => by
    rcases List.mem_append.mp hj with z | z
    · exact h0 j z
    · exact Or.inl (nks_mem z).2
  refine g_new (k := b + n) hC hf NEW_X1 (fun z => by have := f1 _ z; omega) hcl hlv hst ⟨by omega, by show slots + 2 ≤ _; omega⟩ (fun ad2 h1 hC2 hcl2 => ?_)
  have hk2 : b + n ∈ (L0 ++ nks b n) ++ [b + n] := List.mem_append_right _ (List.mem_singleton.mpr rfl)
  have hs2 : ∀ j ∈ L0 ++ nks b n, j ∈ (L0 ++ nks b n) ++ [b + n] := fun j hj => List.mem_append_left _ hj
  refine g_st1 hC2 hf2 rfl ?_
  have fq : ¬ b + n + 1 ∈ (L0 ++ nks b n) ++ [b + n] := fun z => by
    rcases List.mem_append.mp z with z | z
    · have := f1 _ z; omega
    · have := List.mem_singleton.mp z; omega
  have hnd2 : (((L0 ++ nks b n) ++ [b + n]) ++ [b + n + 1]).Nodup := List.nodup_append.mpr ⟨hC2.2.2.2.2.2.2.1, List.nodup_cons.mpr ⟨List.not_mem_nil, List.nodup_nil⟩, fun a ha b9 hb z => fq (by rw [List.mem_singleton.mp hb] at z; rw [← z]; exact ha)⟩
  refine g_initN (maxL2 := 1) (rm2 := rmK 1 1 512) hC2 hN (c_X1_init hC2.2.2.2.2.2.1 hC2.2.2.2.2.2.2.1 hk2 fq hcl2 (va_up_self _ _ _)) hf3 (by decide) MIK_X1 hnd2 (fun w hw9 => (hlv w hw9).mono hs2) (sv_cons (rv hk2) (fun v hv => (hst v hv).mono hs2)) (by rw [List.map_cons, List.sum_cons]; show 1 + _ ≤ 8; omega) ⟨hR.1, hR.2⟩ ⟨by show cells + 1 + 1 ≤ _; omega, by show slots + 2 + 512 ≤ _; omega⟩ (fun ad3 hp3 h3 hC3 hcl3 e3 => ?_)
  have eL : ((L0 ++ nks b n) ++ [b + n]) ++ [b + n + 1] = L0 ++ nks b (n + 2) := by rw [← nks2, List.append_assoc]; rfl
  have eH : setP (va_up hp (b + n) (kO 1 [.null, .int 0])) (b + n) (fun _ => 0) = setP hp (b + n) (fun _ => 0) := by
    funext j
    by_cases z1 : j = b + n
    · subst z1; rw [(setP_at _ _ _).1, (setP_at _ _ _).1]
    · by_cases z2 : j = b + n + 1
      · subst z2; rw [(setP_at _ _ _).2, (setP_at _ _ _).2]
      · rw [setP_ne z1 z2, setP_ne z1 z2, va_up_ne _ _ z1]
  rw [e3, eH] at hcl3
  rw [e3, eH]
  rw [eL] at hC3 hcl3 ⊢
  exact kk ad3 (fun j hj => (h3 j (hs2 j hj)).trans (h1 j hj)) hC3 hcl3
/-- new Gate() -/
theorem g_mkG (hC : CX p s m args meth c RX2 cc nL ret tb D dA ad L A) (hN : NW A sa s s.heap) {pc n2 n3 nx k n b : Nat} {L0 : List Nat} (hf : fd tb pc = some (.new 9, n2)) (hf2 : fd tb n2 = some (.dup, n3)) (hf3 : fd tb n3 = some (.invokespecial 29, nx)) (hL : L = L0 ++ nks b n) (hk9 : k = b + n) (h0 : ∀ j ∈ L0, j < k ∨ k + 3 ≤ j) (hcl : CLO L hp) {lv : List (Nat × Value)} {st : List Value} (hlv : ∀ w ∈ lv, rfV L w.2) (hst : ∀ v ∈ st, rfV L v) (hR : 2 ≤ R.frames ∧ 8 + (1 + 11) + 40 ≤ R.locals) (hw : (st.map fun v => v.category).sum ≤ 7) (hfc : cells + 3 ≤ R.cells ∧ slots + 22 ≤ R.slots)
    (kk : ∀ (ad2 : Nat → Nat) (hp2 : Nat → KE), (∀ j ∈ L, ad2 j = ad j) → CX p s m args meth c RX2 cc nL ret tb D dA ad2 (L0 ++ nks b (n + 3)) A → CLO (L0 ++ nks b (n + 3)) hp2 → GateAt hp2 k 0 0 0 0 (fun _ => 0) (fun _ => 0) → (∀ j, j ≠ k → j ≠ k + 1 → j ≠ k + 2 → hp2 j = hp j) → G p l e R s m args below meth c D dA ad2 (L0 ++ nks b (n + 3)) A nL (cells + 3) (slots + 22) Q hp2 nx lv (.ref k :: st)) : G p l e R s m args below meth c D dA ad L A nL cells slots Q hp pc lv st := by
  subst hL
  subst hk9
  have hnd := hC.2.2.2.2.2.2.1
  have f1 : ∀ j, j ∈ L0 ++ nks b n → j < b + n ∨ b + n + 3 ≤ j := fun j hj => by
    rcases List.mem_append.mp hj with z | z
    · exact h0 j z
    · exact Or.inl (nks_mem z).2
  refine g_new (k := b + n) hC hf NEW_X0 (fun z => by have := f1 _ z; omega) hcl hlv hst ⟨by omega, by show slots + 6 ≤ _; omega⟩ (fun ad2 h1 hC2 hcl2 => ?_)
  have hk2 : b + n ∈ (L0 ++ nks b n) ++ [b + n] := List.mem_append_right _ (List.mem_singleton.mpr rfl)
  have hs2 : ∀ j ∈ L0 ++ nks b n, j ∈ (L0 ++ nks b n) ++ [b + n] := fun j hj => List.mem_append_left _ hj
  refine g_st1 hC2 hf2 rfl ?_
  have fq : ∀ j, (j = b + n + 1 ∨ j = b + n + 2) → ¬ j ∈ (L0 ++ nks b n) ++ [b + n] := fun j hj z => by
    rcases List.mem_append.mp z with z | z
    · have := f1 _ z; omega
    · have := List.mem_singleton.mp z; omega
  have eL : ((L0 ++ nks b n) ++ [b + n]) ++ [b + n + 1, b + n + 2] = L0 ++ nks b (n + 3) := by
    show _ = L0 ++ (((nks b n ++ [b + n]) ++ [b + (n + 1)]) ++ [b + (n + 2)])
    simp [Nat.add_assoc]
  have hnd2 : (((L0 ++ nks b n) ++ [b + n]) ++ [b + n + 1, b + n + 2]).Nodup := List.nodup_append.mpr ⟨hC2.2.2.2.2.2.2.1, List.nodup_cons.mpr ⟨fun z => by have := List.mem_singleton.mp z; omega, List.nodup_cons.mpr ⟨List.not_mem_nil, List.nodup_nil⟩⟩, fun a ha b9 hb z => by
    subst z
    rcases List.mem_cons.mp hb with z | hb
    · exact fq a (Or.inl z) ha
    · exact fq a (Or.inr (List.mem_singleton.mp hb)) ha⟩
  refine g_initN (maxL2 := 1) (rm2 := rmK 1 2 16) hC2 hN (c_X0_init hC2.2.2.2.2.2.1 hC2.2.2.2.2.2.2.1 hk2 (fq _ (Or.inl rfl)) (fq _ (Or.inr rfl)) hcl2 (va_up_self _ _ _)) hf3 (by decide) MIK_X0 hnd2 (fun w hw9 => (hlv w hw9).mono hs2) (sv_cons (rv hk2) (fun v hv => (hst v hv).mono hs2)) (by rw [List.map_cons, List.sum_cons]; show 1 + _ ≤ 8; omega) ⟨hR.1, hR.2⟩ ⟨by show cells + 1 + 2 ≤ _; omega, by show slots + 6 + 16 ≤ _; omega⟩ (fun ad3 hp3 h3 hC3 hcl3 e3 => ?_)
  rw [eL] at hC3 hcl3 ⊢
  exact kk ad3 hp3 (fun j hj => (h3 j (hs2 j hj)).trans (h1 j hj)) hC3 hcl3 e3.1 (fun j j1 j2 j3 => (e3.2 j j1 j2 j3).trans (va_up_ne _ _ j1))
end
