/-! rows of the law's own body: the script is no cell of the world; its reference is the key 66 -/
def LX (ad : Nat → Nat) (A : Nat → Prop) (b N : Nat) (xs : Nat → Int32) (s : State) : Prop := va_X b N xs s s.heap ∧ b < s.heap.size ∧ (¬ A b) ∧ ad 66 = b ∧ N ≤ 2560
def MHK (own : String) (idx : Nat) (y : MethodName) (cc : ByteArray) (maxL : Nat) (hh : List (Nat × Nat × Nat × Nat)) (n : Nat) : Prop :=
  (Cond.methodLink own idx y ∈ WW ∧ Cond.static y ∈ WW ∧ Cond.initialized y.cls ∈ WW ∧ Cond.codeWith y cc maxL (some .int) hh ∈ WW) ∧ (y.cls ≠ "java/lang/invoke/MethodHandle" ∧ y.cls ≠ "java/lang/invoke/VarHandle" ∧ (parseMethodDescriptor y.desc).map (fun d => d.parameters.length) = some n)
theorem goodIn_H {own : String} {idx n maxL : Nat} {y : MethodName} {cc : ByteArray} {hh : List (Nat × Nat × Nat × Nat)} (h : MHK own idx y cc maxL hh n) : GoodIn WW (va_wsS own idx y (Cond.codeWith y cc maxL (some .int) hh :: WW)) := by
  obtain ⟨⟨h1, h2, h3, h4⟩, -⟩ := h
  intro w hw
  have h9 : w ∈ WW := by
    unfold va_wsS at hw
    rcases List.mem_append.mp hw with hw | hw
    · simp only [List.mem_cons, List.not_mem_nil, or_false] at hw
      rcases hw with rfl | rfl | rfl <;> assumption
    · rcases List.mem_cons.mp hw with rfl | hw
      · exact h4
      · exact hw
  exact ⟨h9, good_WW h9⟩
def MIL (own : String) (idx : Nat) (y : MethodName) (cc : ByteArray) (maxL : Nat) : Prop := (Cond.methodLink own idx y ∈ WW ∧ Cond.instanceMethod y ∈ WW ∧ Cond.initialized y.cls ∈ WW ∧ Cond.code y cc maxL none ∈ WW) ∧ y.name = "<init>" ∧ (y.cls ≠ "java/lang/invoke/MethodHandle" ∧ y.cls ≠ "java/lang/invoke/VarHandle" ∧ (parseMethodDescriptor y.desc).map (fun d => d.parameters.length) = some 0)
section
variable {p : Program} {l : Launch} {e : Env} {R : Room} {s : State} {m : MethodId} {args : Array Value} {below : List Frame} {meth : Method} {c : Code} {D : va_G} {dA ad sa : Nat → Nat} {L : List Nat} {A : Nat → Prop} {nL cells slots : Nat} {Q : State → Prop} {hp : Nat → KE} {own : String} {cc : ByteArray} {ret : Option FieldType} {tb : List (Nat × Instr × Nat)}
theorem g_sld (hC : CX p s m args meth c own cc nL ret tb D dA ad L A) {b N : Nat} {xs : Nat → Int32} (hX : LX ad A b N xs s) {pc nx : Nat} {i : Int32} {lv : List (Nat × Value)} {st : List Value} (j : Nat) (hf : fd tb pc = some (.iaload, nx)) (hi : i = nI j) (hj : j < N)
    (kk : G p l e R s m args below meth c D dA ad L A nL cells slots Q hp nx lv (.int (xs j) :: st)) : G p l e R s m args below meth c D dA ad L A nL cells slots Q hp pc lv (.int i :: .ref 66 :: st) := by
  obtain ⟨⟨hx, hb, hml, ho, hts⟩, -, -, htb, hK, -⟩ := hC
  obtain ⟨n9, hd, hnx, hn9⟩ := fd_ok htb hf
  obtain rfl : n9 = 1 := hn9.resolve_left (by simp [ilen])
  subst hnx
  subst hi
  obtain ⟨hX1, hbl, hbA, h66, hN⟩ := hX
  intro H locs ls hP hS hl
  show W p l e R s m args below meth c H locs cells slots Q (F0 m pc ls (.int (nI j) :: .ref (ad 66) :: st.map (em ad)))
  rw [h66]
  refine va_sld hx hb hX1 hbl hbA hS (vp_in_nI hj (by omega)) hd ?_
  rw [nI_clamp (by omega)]
  exact kk H locs ls hP hS hl
theorem g_slen (hC : CX p s m args meth c own cc nL ret tb D dA ad L A) {b N : Nat} {xs : Nat → Int32} (hX : LX ad A b N xs s) {pc nx : Nat} {lv : List (Nat × Value)} {st : List Value} (hf : fd tb pc = some (.arraylength, nx))
    (kk : G p l e R s m args below meth c D dA ad L A nL cells slots Q hp nx lv (.int (nI N) :: st)) : G p l e R s m args below meth c D dA ad L A nL cells slots Q hp pc lv (.ref 66 :: st) := by
  obtain ⟨⟨hx, hb, hml, ho, hts⟩, -, -, htb, hK, -⟩ := hC
  obtain ⟨n9, hd, hnx, hn9⟩ := fd_ok htb hf
  obtain rfl : n9 = 1 := hn9.resolve_left (by simp [ilen])
  subst hnx
  obtain ⟨hX1, hbl, hbA, h66, hN⟩ := hX
  intro H locs ls hP hS hl
  show W p l e R s m args below meth c H locs cells slots Q (F0 m pc ls (.ref (ad 66) :: st.map (em ad)))
  rw [h66]
  exact va_slen hx hb hX1 hbl hbA hS hd (kk H locs ls hP hS hl)
set_option maxHeartbeats 2000000 in
theorem g_callH (hC : CX p s m args meth c own cc nL ret tb D dA ad L A) (hN : NW A sa s s.heap) (hNC : NC s) {pc nx idx maxL2 : Nat} {hh : List (Nat × Nat × Nat × Nat)} {y : MethodName} {bytes : ByteArray} {rm2 : Room} {rest st : List Value} {lv : List (Nat × Value)} {post : Option Value → (Nat → KE) → Prop} (As : List Value) (hM : KH l y bytes maxL2 hh rm2 D dA ad sa L As hp post) (hf : fd tb pc = some (.invokestatic idx, nx)) (hm : MHK own idx y bytes maxL2 hh As.length) (hst : st = As.reverse ++ rest) (hw : (rest.map fun v => v.category).sum ≤ 8) (hR : rm2.frames + 1 ≤ R.frames ∧ 8 + (maxL2 + 11) + rm2.locals ≤ R.locals) (hfc : cells + rm2.cells ≤ R.cells ∧ slots + rm2.slots ≤ R.slots)
    (kk : ∀ (r : Option Value) (hp' : Nat → KE), post r hp' → G p l e R s m args below meth c D dA ad L A nL (cells + rm2.cells) (slots + rm2.slots) Q hp' nx lv (r.toList ++ rest)) : G p l e R s m args below meth c D dA ad L A nL cells slots Q hp pc lv st := by
  have hC0 := hC
  obtain ⟨⟨hx, hb, hml, ho, hts⟩, hr9, hlk, htb, hK, hj1, hnd, hA, hA2⟩ := hC
  obtain ⟨n9, hd, hnx, hn9⟩ := fd_ok htb hf
  obtain rfl : n9 = 3 := hn9.resolve_left (by simp [ilen])
  subst hnx
  subst hst
  intro H locs ls hP hS hl
  have hrun := vx_runSX (e := e) (below := below) (meth := meth) (locs := locs) (cells := cells) (slots := slots) (As := As.map (em ad)) (rest := rest.map (em ad)) (g := F0 m pc ls ((As.reverse ++ rest).map (em ad))) ⟨hx, hb, hml, ho, hts⟩ (hM H.size) (vx_cwSW As.length hts (goodIn_H hm) rfl rfl rfl hm.2 hR) ⟨kPh_blind D dA ad sa L As hp H.size, fun U hU hW => ⟨k_pre hC0 hN hP hS U hU hW, NC.warm hW hNC⟩⟩ rfl (by rw [List.length_map]) hl.1 (by simp) (lv_room (by rw [em_cats]; exact hw)) hd hfc
  refine k_runx hrun hS (kA_sub hA hA2 hS) (kA_sub hA hA2 hS) (fun E hp' H1 locs1 ce q9 hpe hP1 hS1 hce hcv hcl => hpe.elim) (fun r hp' H1 locs1 hpo hP1 hS1 => ?_)
  rw [em_stk]
  exact kk r hp' hpo H1 locs1 ls hP1 hS1 hl
/-- a new cell, keys outside the world kept: M holds what locals and stack name -/
theorem g_growM (hC : CX p s m args meth c own cc nL ret tb D dA ad L A) {k nx : Nat} {x : KE} {M : List Nat} (hk : ¬ k ∈ L) (hkM : ¬ k ∈ M) (hcl : CLO L hp) (hx : rfE (L ++ [k]) x) (hx2 : ∀ a1 a2 : Nat → Nat, emE dA a1 x = emE dA a2 x) {lv : List (Nat × Value)} {st : List Value} (hlv : ∀ q ∈ lv, rfV M q.2) (hst : ∀ v ∈ st, rfV M v) {cells1 slots1 : Nat}
    (kk : ∀ ad2 : Nat → Nat, (∀ j, j ≠ k → ad2 j = ad j) → CX p s m args meth c own cc nL ret tb D dA ad2 (L ++ [k]) A → CLO (L ++ [k]) (va_up hp k x) → G p l e R s m args below meth c D dA ad2 (L ++ [k]) A nL cells1 slots1 Q (va_up hp k x) nx lv (.ref k :: st))
    {q : Nat} {H1 : Heap} {locs : List Loc} {ls : Array Slot} (hP : va_P D kcl (kw dA ad L hp ++ [(q, emE dA ad x)]) H1) (hD : va_D A (kw dA ad L hp ++ [(q, emE dA ad x)])) (hS : va_S A s.heap H1 locs) (hl : lv_has ls nL (emL ad lv)) : W p l e R s m args below meth c H1 locs cells1 slots1 Q (F0 m nx ls (.ref q :: st.map (em ad))) := by
  have h0 : ∀ j, j ≠ k → va_up ad k q j = ad j := fun j hj => va_up_ne _ _ hj
  have h1 : ∀ j ∈ L, va_up ad k q j = ad j := fun j hj => h0 j (fun z => hk (by rw [← z]; exact hj))
  have hM : ∀ j ∈ M, va_up ad k q j = ad j := fun j hj => h0 j (fun z => hkM (by rw [← z]; exact hj))
  rw [hx2 ad (va_up ad k q), ← kw_push hk hcl] at hP hD
  obtain ⟨d1, d2⟩ := D_kinj hD
  obtain ⟨c1, c2, c3, c4, c5, c6, c7, c8, c9⟩ := hC
  have hsub : ∀ j ∈ L, j ∈ L ++ [k] := fun j hj => List.mem_append_left _ hj
  have K := kk (va_up ad k q) h0 ⟨c1, c2, c3, c4, c5, d1, List.nodup_append.mpr ⟨c7, List.nodup_cons.mpr ⟨List.not_mem_nil, List.nodup_nil⟩, fun a ha b hb z => hk (by rw [List.mem_singleton.mp hb] at z; rw [← z]; exact ha)⟩, d2, c9⟩ (fun j hj => by
    by_cases z : j = k
    · subst z; rw [va_up_self]; exact hx
    · rw [va_up_ne _ _ z]
      exact (hcl j ((List.mem_append.mp hj).resolve_right (fun w => z (List.mem_singleton.mp w)))).mono hsub)
  have e1 : emL (va_up ad k q) lv = emL ad lv := List.map_congr_left (fun w hw => by rw [em_ag hM (hlv w hw)])
  have e2 : (Value.ref k :: st).map (em (va_up ad k q)) = .ref q :: st.map (em ad) := by
    rw [List.map_cons, List.map_congr_left (fun v hv => em_ag hM (hst v hv))]
    show Value.ref (va_up ad k q k) :: _ = _
    rw [va_up_self]
  rw [← e2]
  exact K H1 locs ls hP hS (by rw [e1]; exact hl)
theorem g_newM (hC : CX p s m args meth c own cc nL ret tb D dA ad L A) {pc nx idx ci k : Nat} {fs : List Value} {M : List Nat} (hf : fd tb pc = some (.new idx, nx)) (hN : NEW own idx ci fs) (hk : ¬ k ∈ L) (hkM : ¬ k ∈ M) (hcl : CLO L hp) {lv : List (Nat × Value)} {st : List Value} (hlv : ∀ q ∈ lv, rfV M q.2) (hst : ∀ v ∈ st, rfV M v) (hfc : cells + 1 ≤ R.cells ∧ slots + fN ci ≤ R.slots)
    (kk : ∀ ad2 : Nat → Nat, (∀ j, j ≠ k → ad2 j = ad j) → CX p s m args meth c own cc nL ret tb D dA ad2 (L ++ [k]) A → CLO (L ++ [k]) (va_up hp k (kO ci fs)) → G p l e R s m args below meth c D dA ad2 (L ++ [k]) A nL (cells + 1) (slots + fN ci) Q (va_up hp k (kO ci fs)) nx lv (.ref k :: st)) : G p l e R s m args below meth c D dA ad L A nL cells slots Q hp pc lv st := by
  have hC0 := hC
  obtain ⟨⟨hx, hb, hml, ho, hts⟩, -, -, htb, hK, hj1, hnd, hA, hA2⟩ := hC
  obtain ⟨n, hd, hnx, hn⟩ := fd_ok htb hf
  obtain rfl : n = 3 := hn.resolve_left (by simp [ilen])
  subst hnx
  obtain ⟨n1, n2, n3, n4, n5, n6, n7, n8⟩ := hN
  intro H locs ls hP hS hl
  refine va_new (D := D) (C := fC ci) (T := fT ci) (N := fN ci) hx hb hts n5 (ftY ci) n6 ho (hts _ n2) (hts _ n3) (hts _ n4) hK hP (kw_D hj1 hnd hA) hS hA2 n1 n7 hfc.1 hfc.2 hd (fun q H1 hP1 hD1 hS1 => ?_)
  have e1 : ∀ a1 : Nat → Nat, emE dA a1 (kO ci fs) = (.inr (ci, fs) : va_E) := fun a1 => by
    show (.inr (ci, fs.map (em a1)) : va_E) = _
    rw [em_no n8]
  exact g_growM (x := kO ci fs) hC0 hk hkM hcl (fun v hv k9 e9 => absurd e9 (n8 v hv k9)) (fun a1 a2 => (e1 a1).trans (e1 a2).symm) hlv hst kk (by rw [e1]; exact hP1) (by rw [e1]; exact hD1) hS1 hl
theorem g_newaJM (hC : CX p s m args meth c own cc nL ret tb D dA ad L A) {pc nx k N : Nat} {M : List Nat} (hf : fd tb pc = some (.newarray .long, nx)) (hN : N ≤ 100000) (hk : ¬ k ∈ L) (hkM : ¬ k ∈ M) (hcl : CLO L hp) {lv : List (Nat × Value)} {st : List Value} (hlv : ∀ q ∈ lv, rfV M q.2) (hst : ∀ v ∈ st, rfV M v) (hfc : cells + 1 ≤ R.cells ∧ slots + N ≤ R.slots)
    (kk : ∀ ad2 : Nat → Nat, (∀ j, j ≠ k → ad2 j = ad j) → CX p s m args meth c own cc nL ret tb D dA ad2 (L ++ [k]) A → CLO (L ++ [k]) (va_up hp k (kJ N (fun _ => 0))) → G p l e R s m args below meth c D dA ad2 (L ++ [k]) A nL (cells + 1) (slots + N) Q (va_up hp k (kJ N (fun _ => 0))) nx lv (.ref k :: st)) : G p l e R s m args below meth c D dA ad L A nL cells slots Q hp pc lv (.int (nI N) :: st) := by
  have hC0 := hC
  obtain ⟨⟨hx, hb, hml, ho, hts⟩, -, -, htb, hK, hj1, hnd, hA, hA2⟩ := hC
  obtain ⟨n, hd, hnx, hn⟩ := fd_ok htb hf
  obtain rfl : n = 2 := hn.resolve_left (by simp [ilen])
  subst hnx
  intro H locs ls hP hS hl
  refine va_newa (D := D) (atype := .long) (ty := .long) (a0 := (N, .inr (.inl (fun _ => 0)))) hx hb (hts _ aC_long) rfl hK hP (kw_D hj1 hnd hA) hS hA2 (fun _ => rfl) (nI_pos (by omega)) (nI_clamp (by omega)) (by show N * 8 ≤ _; omega) hfc.1 hfc.2 hd (fun q cA H1 hK1 hP1 hD1 hS1 => ?_)
  have e1 : cA = dA 1 := by
    have h1 : s.vm.findClass ("[" ++ FieldType.long.toString) = some (dA 1) := (hK.2 1 _ rfl).2
    have h2 : s.vm.findClass ("[" ++ FieldType.long.toString) = some cA := (hK1.2 4 (cA, .long) rfl).2
    exact Option.some.inj (h2.symm.trans h1)
  subst e1
  exact g_growM (x := kJ N (fun _ => 0)) hC0 hk hkM hcl trivial (fun _ _ => rfl) hlv hst kk hP1 hD1 hS1 hl
set_option maxHeartbeats 2000000 in
theorem g_initM (hC : CX p s m args meth c own cc nL ret tb D dA ad L A) (hN : NW A sa s s.heap) {pc nx idx maxL2 k : Nat} {y : MethodName} {bytes : ByteArray} {rm2 : Room} {rest : List Value} {lv : List (Nat × Value)} {nk M : List Nat} {post : (Nat → KE) → Prop} (hM : KC l y bytes maxL2 rm2 D dA ad sa L [.ref k] hp nk post) (hf : fd tb pc = some (.invokespecial idx, nx)) (hm : MIL own idx y bytes maxL2) (hnk : (L ++ nk).Nodup) (hnM : ∀ j ∈ nk, ¬ j ∈ M) (hlv : ∀ q ∈ lv, rfV M q.2) (hrs : ∀ v ∈ rest, rfV M v) (hw : (rest.map fun v => v.category).sum ≤ 8) (hR : rm2.frames + 1 ≤ R.frames ∧ 8 + (maxL2 + 11) + rm2.locals ≤ R.locals) (hfc : cells + rm2.cells ≤ R.cells ∧ slots + rm2.slots ≤ R.slots)
    (kk : ∀ (ad2 : Nat → Nat) (hp' : Nat → KE), (∀ j, ¬ j ∈ nk → ad2 j = ad j) → CX p s m args meth c own cc nL ret tb D dA ad2 (L ++ nk) A → CLO (L ++ nk) hp' → post hp' → G p l e R s m args below meth c D dA ad2 (L ++ nk) A nL (cells + rm2.cells) (slots + rm2.slots) Q hp' nx lv rest) : G p l e R s m args below meth c D dA ad L A nL cells slots Q hp pc lv (.ref k :: rest) := by
  have hC0 := hC
  obtain ⟨⟨hx, hb, hml, ho, hts⟩, hr9, hlk, htb, hK, hj1, hnd, hA, hA2⟩ := hC
  obtain ⟨n9, hd, hnx, hn9⟩ := fd_ok htb hf
  obtain rfl : n9 = 3 := hn9.resolve_left (by simp [ilen])
  subst hnx
  intro H locs ls hP hS hl
  have hrun := va_runI (e := e) (below := below) (meth := meth) (locs := locs) (cells := cells) (slots := slots) (b := ad k) (As := []) (rest := rest.map (em ad)) (g := F0 m pc ls ((.ref k :: rest).map (em ad))) ⟨hx, hb, hml, ho, hts⟩ (hM H.size) ⟨callB_of 0 hts (goodIn_c hm.1.2.2.2) rfl rfl rfl (hts _ hm.1.2.2.1) (hts _ hm.1.1) hm.2.2 hR, hm.2.1, hts _ hm.1.2.1⟩ ⟨kPc_blind D dA ad sa L [.ref k] hp H.size, k_pre hC0 hN hP hS⟩ rfl rfl hl.1 rfl (lv_room (by rw [em_cats]; exact hw)) hd hfc
  refine k_runC hrun hS (kA_sub hA hA2 hS) (kA_sub hA hA2 hS) (fun ad2 hp' H1 locs1 g1 g2 g3 g4 g5 g6 hS1 => ?_)
  have q1 : ∀ j ∈ L ++ nk, (fun j => if j ∈ L ++ nk then ad2 j else ad j) j = ad2 j := fun j hj => if_pos hj
  have q2 : ∀ j, ¬ j ∈ nk → (fun j => if j ∈ L ++ nk then ad2 j else ad j) j = ad j := fun j hj => by
    show (if j ∈ L ++ nk then ad2 j else ad j) = ad j
    by_cases z : j ∈ L ++ nk
    · rw [if_pos z]
      exact g1 j ((List.mem_append.mp z).resolve_right hj)
    · rw [if_neg z]
  generalize (fun j => if j ∈ L ++ nk then ad2 j else ad j) = ad3 at q1 q2
  have K := kk ad3 hp' q2 ⟨⟨hx, hb, hml, ho, hts⟩, hr9, hlk, htb, hK, fun i hi j hj h => g2 i hi j hj (by rw [← q1 i hi, ← q1 j hj]; exact h), hnk, fun j hj => by rw [q1 j hj]; exact kA_sub hA hA2 hS _ (g3 j hj), hA2⟩ g4 g5
  have qM : ∀ j ∈ M, ad3 j = ad j := fun j hj => q2 j (fun z => hnM j z hj)
  have e1 : emL ad3 lv = emL ad lv := List.map_congr_left (fun w hw => by rw [em_ag qM (hlv w hw)])
  have e2 : rest.map (em ad3) = rest.map (em ad) := List.map_congr_left (fun v hv => em_ag qM (hrs v hv))
  rw [← e2]
  exact K H1 locs1 ls (by rw [kw_ag q1 g4]; exact g6) hS1 (by rw [e1]; exact hl)
end
