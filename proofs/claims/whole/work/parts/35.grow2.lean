theorem aO_0 : Cond.arrayOver (.object RX0) ∈ TW := TW_of (by decide +kernel) rfl
theorem aO_1 : Cond.arrayOver (.object RX1) ∈ TW := TW_of (by decide +kernel) rfl
section
variable {p : Program} {l : Launch} {e : Env} {R : Room} {s : State} {m : MethodId} {args : Array Value} {below : List Frame} {meth : Method} {c : Code} {D : va_G} {dA ad sa : Nat → Nat} {L : List Nat} {A : Nat → Prop} {nL cells slots : Nat} {Q : State → Prop} {hp : Nat → KE} {own : String} {cc : ByteArray} {ret : Option FieldType} {tb : List (Nat × Instr × Nat)}
theorem g_newaQ (hC : CX p s m args meth c own cc nL ret tb D dA ad L A) (hN : NW A sa s s.heap) {pc nx k N t idx : Nat} {C : String} (hf : fd tb pc = some (.anewarray idx, nx)) (hcl9 : Cond.classLink own idx C ∈ WW) (ho9 : Cond.arrayOver (.object C) ∈ TW) (ht : (tysW dA)[t]? = some (dA t, .object C)) (hN9 : N ≤ 100000) (hk : ¬ k ∈ L) (hcl : CLO L hp) {lv : List (Nat × Value)} {st : List Value} (hlv : ∀ q ∈ lv, rfV L q.2) (hst : ∀ v ∈ st, rfV L v) (hfc : cells + 1 ≤ R.cells ∧ slots + N ≤ R.slots)
    (kk : ∀ ad2 : Nat → Nat, (∀ j ∈ L, ad2 j = ad j) → CX p s m args meth c own cc nL ret tb D dA ad2 (L ++ [k]) A → CLO (L ++ [k]) (va_up hp k (kQ t N (fun _ => none))) → G p l e R s m args below meth c D dA ad2 (L ++ [k]) A nL (cells + 1) (slots + N) Q (va_up hp k (kQ t N (fun _ => none))) nx lv (.ref k :: st)) : G p l e R s m args below meth c D dA ad L A nL cells slots Q hp pc lv (.int (nI N) :: st) := by
  have hC0 := hC
  obtain ⟨⟨hx, hb, hml, ho, hts⟩, -, -, htb, hK, hj1, hnd, hA, hA2⟩ := hC
  obtain ⟨n, hd, hnx, hn⟩ := fd_ok htb hf
  obtain rfl : n = 3 := hn.resolve_left (by simp [ilen])
  subst hnx
  intro H locs ls hP hS hl
  refine va_newq (D := D) hx hb ho (hts _ hcl9) (hN.1 _ ho9) hK hP (kw_D hj1 hnd hA) hS hA2 (nI_pos (n := N) (by omega)) (nI_clamp (by omega)) (by omega) hfc.1 hfc.2 hd (fun q cA H1 hK1 hP1 hD1 hS1 => ?_)
  have e1 : cA = dA t := by
    obtain ⟨-, -, -, -, -, h1⟩ := (hK.2 t _ ht).2
    obtain ⟨-, -, -, -, -, h2⟩ := (hK1.2 4 (cA, .object C) rfl).2
    exact Option.some.inj (h2.symm.trans h1)
  subst e1
  exact g_grow (x := kQ t N (fun _ => none)) hC0 hk hcl (fun _ _ h => by cases h) (fun _ _ => rfl) hlv hst kk hP1 hD1 hS1 hl
theorem g_putF (hC : CX p s m args meth c own cc nL ret tb D dA ad L A) (hI : meth.name = "<init>") {pc nx idx ci j k : Nat} {fs : List Value} {v : Value} {lv : List (Nat × Value)} {st : List Value} (hf : fd tb pc = some (.putfield idx, nx)) (hF : FLD own idx ci j) (hk : k ∈ L) (hh : hp k = kO ci fs) (hj : j < fs.length) (hfin : (fT ci j).2.2.2 = true) (hdc : (fT ci j).1 = own)
    (hn2 : narrow (ftY ci j) (em ad v) = em ad v) (hfit : fits (ftY ci j) (em ad v) = true)
    (kk : G p l e R s m args below meth c D dA ad L A nL cells slots Q (va_up hp k (kO ci (fs.set j v))) nx lv st) : G p l e R s m args below meth c D dA ad L A nL cells slots Q hp pc lv (v :: .ref k :: st) := by
  obtain ⟨⟨hx, hb, hml, ho, hts⟩, -, -, htb, hK, hj1, hnd, hA, -⟩ := hC
  obtain ⟨n, hd, hnx, hn⟩ := fd_ok htb hf
  obtain rfl : n = 3 := hn.resolve_left (by simp [ilen])
  subst hnx
  obtain ⟨⟨h1, h2, h3, h4, h5⟩, h6, h7⟩ := hF
  intro H locs ls hP hS hl
  obtain ⟨i, hi⟩ := kw_get (dA := dA) (ad := ad) (hp := hp) hk
  have hi0 := hi
  rw [hh] at hi
  refine va_putF (D := D) (C := fC ci) (T := fT ci) (N := fN ci) (ref := fC ci) hx hb hts h5 (ftY ci) h6 h7 ho hK hP (kw_D hj1 hnd hA) hS i hi h1 j h2 (hts _ h3) (fun x h => by rw [h4] at h; exact h) hfin hI hdc (h6 j h2) hn2 hfit (by rw [List.length_map]; exact hj) hd (fun H1 locs1 hP1 _ hS1 => ?_)
  have e1 : ((.inr (ci, (fs.map (em ad)).set j (em ad v))) : va_E) = emE dA ad (kO ci (fs.set j v)) := by
    show _ = (.inr (ci, (fs.set j v).map (em ad)) : va_E)
    rw [List.map_set]
  rw [e1, kw_set hj1 hnd hk hi0] at hP1
  exact kk H1 locs1 ls hP1 hS1 hl
theorem g_obj (hC : CX p s m args meth c own cc nL ret tb D dA ad L A) {pc nx idx k : Nat} {lv : List (Nat × Value)} {st : List Value} (hf : fd tb pc = some (.invokespecial idx, nx)) (hm : Cond.methodLink own idx (⟨"java/lang/Object", "<init>", "()V"⟩ : MethodName) ∈ WW) (hR : 1 ≤ R.frames ∧ (st.map fun v => v.category).sum + 12 ≤ R.locals)
    (kk : G p l e R s m args below meth c D dA ad L A nL cells slots Q hp nx lv st) : G p l e R s m args below meth c D dA ad L A nL cells slots Q hp pc lv (.ref k :: st) := by
  obtain ⟨⟨hx, hb, hml, ho, hts⟩, -, -, htb, -⟩ := hC
  obtain ⟨n, hd, hnx, hn⟩ := fd_ok htb hf
  obtain rfl : n = 3 := hn.resolve_left (by simp [ilen])
  subst hnx
  intro H locs ls hP hS hl
  exact W.objInit hx hb ho (hts _ hm) (hts _ yI_objinit) (hts _ cd_objinit) (g := F0 m pc ls (.ref (ad k) :: st.map (em ad))) rfl (hl.1.trans hml.symm) rfl hd hR.1 (by show 2 * 0 + _ + 12 ≤ _; rw [em_cats]; omega) (kk H locs ls hP hS hl)
theorem up_map (ad : Nat → Nat) (f : Nat → Option Nat) (j v : Nat) : (fun i => (va_up f j (some v) i).map ad) = va_up (fun i => (f i).map ad) j (some (ad v)) := by
  funext i
  by_cases h : i = j
  · subst h; rw [va_up_self, va_up_self]; rfl
  · rw [va_up_ne _ _ h, va_up_ne _ _ h]
theorem g_ast (hC : CX p s m args meth c own cc nL ret tb D dA ad L A) {pc nx k n t v ci : Nat} {f : Nat → Option Nat} {fs : List Value} {i : Int32} {lv : List (Nat × Value)} {st : List Value} (j : Nat) (hf : fd tb pc = some (.aastore, nx)) (hk : k ∈ L) (hh : hp k = kQ t n f) (ht : (tysW dA)[t]? = some (dA t, .object (fC ci))) (hv : v ∈ L) (hv2 : hp v = kO ci fs) (hci : kcl[ci]? = some (fC ci, fT ci, fN ci)) (hi : i = nI j) (hj : j < n) (hn : n < 2 ^ 31)
    (kk : G p l e R s m args below meth c D dA ad L A nL cells slots Q (va_up hp k (kQ t n (va_up f j (some v)))) nx lv st) : G p l e R s m args below meth c D dA ad L A nL cells slots Q hp pc lv (.ref v :: .int i :: .ref k :: st) := by
  obtain ⟨⟨hx, hb, hml, ho, hts⟩, -, -, htb, hK, hj1, hnd, hA, -⟩ := hC
  obtain ⟨n9, hd, hnx, hn9⟩ := fd_ok htb hf
  obtain rfl : n9 = 1 := hn9.resolve_left (by simp [ilen])
  subst hnx
  subst hi
  intro H locs ls hP hS hl
  obtain ⟨i, hi⟩ := kw_get (dA := dA) (ad := ad) (hp := hp) hk
  have hi0 := hi
  rw [hh] at hi
  obtain ⟨i2, hi2⟩ := kw_get (dA := dA) (ad := ad) (hp := hp) hv
  rw [hv2] at hi2
  refine va_astq hx hb hK hP (kw_D hj1 hnd hA) hS i t i2 ci (f := fun j => (f j).map ad) hi ht hi2 hci (vp_in_nI hj hn) hd (fun H1 locs1 hP1 _ hS1 => ?_)
  rw [nI_clamp (Nat.lt_trans hj hn), ← up_map] at hP1
  have e1 : ((.inl (dA t, n, .inr (.inr (.inr (.inr (fun i => (va_up f j (some v) i).map ad)))))) : va_E) = emE dA ad (kQ t n (va_up f j (some v))) := rfl
  rw [e1, kw_set hj1 hnd hk hi0] at hP1
  exact kk H1 locs1 ls hP1 hS1 hl
theorem gC_ret {ad0 : Nat → Nat} {L0 nk : List Nat} (hC : CX p s m args meth c own cc nL none tb D dA ad L A) {pc nx mc ms : Nat} {lv : List (Nat × Value)} {post : (Nat → KE) → Prop} (hf : fd tb pc = some (.return_, nx)) (hL : L = L0 ++ nk) (hag : ∀ j ∈ L0, ad j = ad0 j) (hcl : CLO L hp) (hpost : post hp) (h1 : cells ≤ mc) (h2 : slots ≤ ms) :
    G p l e R s m args below meth c D dA ad L A nL cells slots (MQ below (kC D dA ad0 L0 A nk post) args s mc ms A) hp pc lv [] := by
  subst hL
  obtain ⟨⟨hx, hb, -, -, -⟩, hr, hlk, htb, hK, hj, hnd, hA, hA2⟩ := hC
  obtain ⟨n, hd, hnx, hn⟩ := fd_ok htb hf
  obtain rfl : n = 1 := hn.resolve_left (by simp [ilen])
  intro H locs ls hP hS hl
  exact W.widen h1 h2 (W.vret hx hb hr (fun t ht hW => ⟨⟨rfl, ad, hp, hag, hj, hA, hcl, hpost, by rw [ht]; exact hP⟩, hS.F ht⟩) hS.2.2 hd hlk)
theorem k_runC {H : Heap} {locs : List Loc} {mc ms pc : Nat} {ls : Array Slot} {st0 rest : List Value} {a : Array Value} {A1 free : Nat → Prop} {nk : List Nat} {post : (Nat → KE) → Prop} (hr : va_Run p l e R s m args below meth c H locs cells slots mc ms (F0 m pc ls st0) rest (kC D dA ad L A1 nk post a) free) (hS : va_S A s.heap H locs) (hA : ∀ q, A1 q → A q) (hf : ∀ q, free q → A q)
    (kk : ∀ (ad2 : Nat → Nat) (hp' : Nat → KE) (H1 : Heap) (locs1 : List Loc), (∀ j ∈ L, ad2 j = ad j) → kinj ad2 (L ++ nk) → (∀ j ∈ L ++ nk, A1 (ad2 j)) → CLO (L ++ nk) hp' → post hp' → va_P D kcl (kw dA ad2 (L ++ nk) hp') H1 → va_S A s.heap H1 locs1 → W p l e R s m args below meth c H1 locs1 (cells + mc) (slots + ms) Q (F0 m (pc + 3) ls rest)) : W p l e R s m args below meth c H locs cells slots Q (F0 m pc ls st0) := by
  intro T hT X
  obtain ⟨v, st₀, t, T', L1, h0, X', hL, e1, e2, ⟨⟨hv, ad2, hp', g1, g2, g3, g4, g5, g6⟩, hF⟩, st⟩ := hr T hT X
  cases hv
  obtain ⟨k1, k2, k3⟩ := vx_keep h0 e1 hS (fun q _ h => hA q h) hf hL hF
  obtain ⟨t2, a1, b1⟩ := kk ad2 hp' T'.heap (locs ++ L1) g1 g2 g3 g4 g5 (by rw [e1]; exact g6) k3 T' rfl X'
  exact ⟨t2, st t2 a1, b1⟩
def MIK (y : MethodName) (cc : ByteArray) (maxL : Nat) : Prop := (Cond.instanceMethod y ∈ WW ∧ Cond.initialized y.cls ∈ WW ∧ Cond.code y cc maxL none ∈ WW) ∧ y.name = "<init>" ∧ (y.cls ≠ "java/lang/invoke/MethodHandle" ∧ y.cls ≠ "java/lang/invoke/VarHandle" ∧ (parseMethodDescriptor y.desc).map (fun d => d.parameters.length) = some 0)
theorem g_initW (hC : CX p s m args meth c own cc nL ret tb D dA ad L A) {pc : Nat} {nk : List Nat} (hnk : (L ++ nk).Nodup) {lv : List (Nat × Value)} {rest : List Value} (hlv : ∀ q ∈ lv, rfV L q.2) (hrs : ∀ v ∈ rest, rfV L v) {post : (Nat → KE) → Prop} {cells1 slots1 : Nat}
    (kk : ∀ (ad2 : Nat → Nat) (hp' : Nat → KE), (∀ j ∈ L, ad2 j = ad j) → CX p s m args meth c own cc nL ret tb D dA ad2 (L ++ nk) A → CLO (L ++ nk) hp' → post hp' → G p l e R s m args below meth c D dA ad2 (L ++ nk) A nL cells1 slots1 Q hp' (pc + 3) lv rest)
    {H0 : Heap} {locs0 : List Loc} (hS0 : va_S A s.heap H0 locs0) {ls : Array Slot} (hl : lv_has ls nL (emL ad lv)) (ad2 : Nat → Nat) (hp' : Nat → KE) (H1 : Heap) (locs1 : List Loc) (g1 : ∀ j ∈ L, ad2 j = ad j) (g2 : kinj ad2 (L ++ nk)) (g3 : ∀ j ∈ L ++ nk, kA ad L H0.size (ad2 j)) (g4 : CLO (L ++ nk) hp') (g5 : post hp') (g6 : va_P D kcl (kw dA ad2 (L ++ nk) hp') H1) (hS : va_S A s.heap H1 locs1) : W p l e R s m args below meth c H1 locs1 cells1 slots1 Q (F0 m (pc + 3) ls (rest.map (em ad))) := by
  obtain ⟨c1, c2, c3, c4, c5, c6, c7, c8, c9⟩ := hC
  have K := kk ad2 hp' g1 ⟨c1, c2, c3, c4, c5, g2, hnk, fun j hj => kA_sub c8 c9 hS0 _ (g3 j hj), c9⟩ g4 g5
  have e1 : emL ad2 lv = emL ad lv := List.map_congr_left (fun w hw => by rw [em_ag g1 (hlv w hw)])
  have e2 : rest.map (em ad2) = rest.map (em ad) := List.map_congr_left (fun v hv => em_ag g1 (hrs v hv))
  rw [← e2]
  exact K H1 locs1 ls g6 hS (by rw [e1]; exact hl)
set_option maxHeartbeats 2000000 in
theorem g_initN (hC : CX p s m args meth c own cc nL ret tb D dA ad L A) (hN : NW A sa s s.heap) {pc nx idx maxL2 k : Nat} {y : MethodName} {bytes : ByteArray} {rm2 : Room} {rest : List Value} {lv : List (Nat × Value)} {nk : List Nat} {post : (Nat → KE) → Prop} (hM : KC l y bytes maxL2 rm2 D dA ad sa L [.ref k] hp nk post) (hf : fd tb pc = some (.invokespecial idx, nx)) (hq : (own, idx, y) ∈ nests) (hm : MIK y bytes maxL2) (hnk : (L ++ nk).Nodup) (hlv : ∀ q ∈ lv, rfV L q.2) (hrs : ∀ v ∈ rest, rfV L v) (hw : (rest.map fun v => v.category).sum ≤ 8) (hR : rm2.frames + 1 ≤ R.frames ∧ 8 + (maxL2 + 11) + rm2.locals ≤ R.locals) (hfc : cells + rm2.cells ≤ R.cells ∧ slots + rm2.slots ≤ R.slots)
    (kk : ∀ (ad2 : Nat → Nat) (hp' : Nat → KE), (∀ j ∈ L, ad2 j = ad j) → CX p s m args meth c own cc nL ret tb D dA ad2 (L ++ nk) A → CLO (L ++ nk) hp' → post hp' → G p l e R s m args below meth c D dA ad2 (L ++ nk) A nL (cells + rm2.cells) (slots + rm2.slots) Q hp' nx lv rest) : G p l e R s m args below meth c D dA ad L A nL cells slots Q hp pc lv (.ref k :: rest) := by
  have hC0 := hC
  obtain ⟨⟨hx, hb, hml, ho, hts⟩, hr9, hlk, htb, hK, hj1, hnd, hA, hA2⟩ := hC
  obtain ⟨n9, hd, hnx, hn9⟩ := fd_ok htb hf
  obtain rfl : n9 = 3 := hn9.resolve_left (by simp [ilen])
  subst hnx
  intro H locs ls hP hS hl
  have hrun := va_runIN (e := e) (below := below) (meth := meth) (locs := locs) (cells := cells) (slots := slots) (host := RX2) (b := ad k) (As := []) (rest := rest.map (em ad)) (g := F0 m pc ls ((.ref k :: rest).map (em ad))) ⟨hx, hb, hml, ho, hts⟩ (hM H.size) ⟨va_cnB 0 hts (goodIn_c hm.1.2.2) rfl rfl rfl (hN.2.1 _ hq) (hts _ hm.1.2.1) hm.2.2 hR, hm.2.1, hts _ hm.1.1⟩ ⟨kPc_blind D dA ad sa L [.ref k] hp H.size, k_pre hC0 hN hP hS⟩ rfl rfl hl.1 rfl (lv_room (by rw [em_cats]; exact hw)) hd hfc
  exact k_runC hrun hS (kA_sub hA hA2 hS) (kA_sub hA hA2 hS) (g_initW hC0 hnk hlv hrs kk hS hl)
end
