def MLK (own : String) (idx : Nat) (y : MethodName) (cc : ByteArray) (maxL : Nat) (ret : Option FieldType) (n : Nat) : Prop :=
  (Cond.methodLink own idx y ∈ WW ∧ Cond.instanceMethod y ∈ WW ∧ Cond.selects y.cls y y ∈ WW ∧ Cond.initialized y.cls ∈ WW ∧ Cond.code y cc maxL ret ∈ WW) ∧ (y.cls = y.cls ∧ y.cls ≠ "java/lang/invoke/MethodHandle" ∧ y.cls ≠ "java/lang/invoke/VarHandle" ∧ (parseMethodDescriptor y.desc).map (fun d => d.parameters.length) = some n)
def MSK (own : String) (idx : Nat) (y : MethodName) (cc : ByteArray) (maxL : Nat) (ret : Option FieldType) (n : Nat) : Prop :=
  (Cond.methodLink own idx y ∈ WW ∧ Cond.static y ∈ WW ∧ Cond.initialized y.cls ∈ WW ∧ Cond.code y cc maxL ret ∈ WW) ∧ (y.cls ≠ "java/lang/invoke/MethodHandle" ∧ y.cls ≠ "java/lang/invoke/VarHandle" ∧ (parseMethodDescriptor y.desc).map (fun d => d.parameters.length) = some n)
def MNK (own : String) (idx : Nat) (y : MethodName) (cc : ByteArray) (maxL : Nat) (ret : Option FieldType) (n : Nat) : Prop :=
  ((own, idx, y) ∈ nests ∧ Cond.static y ∈ WW ∧ Cond.initialized y.cls ∈ WW ∧ Cond.code y cc maxL ret ∈ WW) ∧ (y.cls ≠ "java/lang/invoke/MethodHandle" ∧ y.cls ≠ "java/lang/invoke/VarHandle" ∧ (parseMethodDescriptor y.desc).map (fun d => d.parameters.length) = some n)
theorem good_WW {w : Cond} (h : w ∈ WW) : (w.onTables && w.keeps) = true ∨ ∃ ty, w = .arrayClass ty := good_of_word (WW_good h)
theorem goodIn_c {y : MethodName} {cc : ByteArray} {maxL : Nat} {ret : Option FieldType} (h : Cond.code y cc maxL ret ∈ WW) : GoodIn WW (Cond.code y cc maxL ret :: WW) := fun w hw => by
  rcases List.mem_cons.mp hw with rfl | hw
  · exact ⟨h, good_WW h⟩
  · exact ⟨hw, good_WW hw⟩
theorem goodIn_V {own : String} {idx n maxL : Nat} {y : MethodName} {cc : ByteArray} {ret : Option FieldType} (h : MLK own idx y cc maxL ret n) : GoodIn WW (wsV own idx y.cls y (Cond.code y cc maxL ret :: WW)) := by
  obtain ⟨⟨h1, h2, h3, h4, h5⟩, -⟩ := h
  intro w hw
  unfold wsV at hw
  rcases List.mem_append.mp hw with hw | hw
  · have h9 : w ∈ WW := by
      simp only [List.mem_cons, List.not_mem_nil, or_false] at hw
      rcases hw with rfl | rfl | rfl | rfl <;> assumption
    exact ⟨h9, good_WW h9⟩
  · exact goodIn_c h5 w hw
section
variable {p : Program} {l : Launch} {e : Env} {R : Room} {s : State} {m : MethodId} {args : Array Value} {below : List Frame} {meth : Method} {c : Code} {D : va_G} {dA ad sa : Nat → Nat} {L : List Nat} {A : Nat → Prop} {nL cells slots : Nat} {Q : State → Prop} {hp : Nat → KE} {own : String} {cc : ByteArray} {ret : Option FieldType} {tb : List (Nat × Instr × Nat)}

theorem kA_sub {A : Nat → Prop} {H0 H : Heap} {locs : List Loc} (hA : ∀ k ∈ L, A (ad k)) (hA2 : ∀ q, H0.size ≤ q → A q) (hS : va_S A H0 H locs) : ∀ q, kA ad L H.size q → A q := fun q h => by
  rcases h with ⟨k, hk, rfl⟩ | h
  · exact hA k hk
  · exact hA2 q (Nat.le_trans hS.1 h)
theorem k_run {H : Heap} {locs : List Loc} {mc ms pc : Nat} {ls : Array Slot} {st0 rest : List Value} {a : Array Value} {A1 free : Nat → Prop} {post : Option Value → (Nat → KE) → Prop} (hr : va_Run p l e R s m args below meth c H locs cells slots mc ms (F0 m pc ls st0) rest (kR D dA ad L A1 post a) free) (hS : va_S A s.heap H locs) (hA : ∀ q, A1 q → A q) (hf : ∀ q, free q → A q)
    (kk : ∀ (r : Option Value) (hp' : Nat → KE) (H1 : Heap) (locs1 : List Loc), post r hp' → va_P D kcl (kw dA ad L hp') H1 → va_S A s.heap H1 locs1 → W p l e R s m args below meth c H1 locs1 (cells + mc) (slots + ms) Q (F0 m (pc + 3) ls ((r.map (em ad)).toList ++ rest))) : W p l e R s m args below meth c H locs cells slots Q (F0 m pc ls st0) := by
  intro T hT X
  obtain ⟨v, st₀, t, T', L1, h0, X', hL, e1, e2, ⟨⟨r, hp', hv, hpo, hb⟩, hF⟩, st⟩ := hr T hT X
  cases hv
  obtain ⟨k1, k2, k3⟩ := vx_keep h0 e1 hS (fun q _ h => hA q h) hf hL hF
  obtain ⟨t2, a1, b1⟩ := kk r hp' T'.heap (locs ++ L1) hpo (by rw [e1]; exact hb) k3 T' rfl X'
  exact ⟨t2, st t2 a1, b1⟩
theorem k_runx {H : Heap} {locs : List Loc} {mc ms pc : Nat} {ls : Array Slot} {st0 rest : List Value} {a : Array Value} {A1 free : Nat → Prop} {post : Option Value → (Nat → KE) → Prop} {px : String → (Nat → KE) → Prop} (hr : vx_Run p l e R s m args below meth c H locs cells slots mc ms (F0 m pc ls st0) rest (kR D dA ad L A1 post a) (kX D dA ad L A1 px) free) (hS : va_S A s.heap H locs) (hA : ∀ q, A1 q → A q) (hf : ∀ q, free q → A q)
    (kx : ∀ (E : String) (hp' : Nat → KE) (H1 : Heap) (locs1 : List Loc) (ce : Cell) (q9 : Addr), px E hp' → va_P D kcl (kw dA ad L hp') H1 → va_S A s.heap H1 locs1 → H1[q9]? = some ce → ce.vm = .none → s.vm.findClass E = some ce.cls → vx_W p l e R s m args below meth c H1 locs1 (cells + mc) (slots + ms) Q (F0 m pc ls rest) q9)
    (kk : ∀ (r : Option Value) (hp' : Nat → KE) (H1 : Heap) (locs1 : List Loc), post r hp' → va_P D kcl (kw dA ad L hp') H1 → va_S A s.heap H1 locs1 → W p l e R s m args below meth c H1 locs1 (cells + mc) (slots + ms) Q (F0 m (pc + 3) ls ((r.map (em ad)).toList ++ rest))) : W p l e R s m args below meth c H locs cells slots Q (F0 m pc ls st0) := by
  intro T hT X
  rcases hr T hT X with ⟨v, st₀, t, T', L1, h0, X', hL, e1, e2, ⟨⟨r, hp', hv, hpo, hb⟩, hF⟩, st⟩ | ⟨q, st₀, t, T', L1, E, ce, h0, X', hL, e1, e2, ⟨⟨hp', hpo, hb⟩, hF⟩, hce, hcv, hcl, st⟩
  · cases hv
    obtain ⟨k1, k2, k3⟩ := vx_keep h0 e1 hS (fun q _ h => hA q h) hf hL hF
    obtain ⟨t2, a1, b1⟩ := kk r hp' T'.heap (locs ++ L1) hpo (by rw [e1]; exact hb) k3 T' rfl X'
    exact ⟨t2, st t2 a1, b1⟩
  · obtain ⟨k1, k2, k3⟩ := vx_keep h0 e1 hS (fun q _ h => hA q h) hf hL hF
    obtain ⟨t2, a1, b1⟩ := kx E hp' T'.heap (locs ++ L1) ce q hpo (by rw [e1]; exact hb) k3 (by rw [e1]; exact hce) hcv hcl T' rfl X'
    exact ⟨t2, st.trans a1, b1⟩
theorem em_cats (ad : Nat → Nat) (rest : List Value) : ((rest.map (em ad)).map fun v => v.category).sum = (rest.map fun v => v.category).sum := by
  induction rest with
  | nil => rfl
  | cons v r ih => simp only [List.map_cons, List.sum_cons, em_cat, ih]
theorem em_stk (ad : Nat → Nat) (r : Option Value) (rest : List Value) : (r.map (em ad)).toList ++ rest.map (em ad) = (r.toList ++ rest).map (em ad) := by cases r <;> rfl
/-- what a callee finds -/
theorem k_pre {H : Heap} {locs : List Loc} {av : List Value} (hC : CX p s m args meth c own cc nL ret tb D dA ad L A) (hN : NW A sa s s.heap) (hP : va_P D kcl (kw dA ad L hp) H) (hS : va_S A s.heap H locs) : ∀ U : State, U.heap = H → s.WarmedH U.vm → kPc D dA ad sa L av hp H.size (av.map (em ad)).toArray U := by
  obtain ⟨-, -, -, -, hK, -, -, hA, hA2⟩ := hC
  intro U hU hW
  refine ⟨rfl, by rw [hU], by rw [hU]; exact hP, va_K.moved hW.alike hK, ?_⟩
  rw [hU]
  exact NW.move hN hS hW (kA_sub hA hA2 hS)
set_option maxHeartbeats 2000000 in
theorem g_callV (hC : CX p s m args meth c own cc nL ret tb D dA ad L A) (hN : NW A sa s s.heap) {pc nx idx maxL2 : Nat} {k ci : Nat} {fs : List Value} {y : MethodName} {bytes : ByteArray} {ret2 : Option FieldType} {rm2 : Room} {rest st : List Value} {lv : List (Nat × Value)} {post : Option Value → (Nat → KE) → Prop} (As : List Value) (hM : KM l y bytes maxL2 ret2 rm2 D dA ad sa L (.ref k :: As) hp post) (hf : fd tb pc = some (.invokevirtual idx, nx)) (hm : MLK own idx y bytes maxL2 ret2 As.length) (hk : k ∈ L) (hh : hp k = kO ci fs) (hci : kcl[ci]? = some (y.cls, fT ci, fN ci)) (hst : st = As.reverse ++ .ref k :: rest) (hw : (rest.map fun v => v.category).sum ≤ 8) (hR : rm2.frames + 1 ≤ R.frames ∧ 8 + (maxL2 + 11) + rm2.locals ≤ R.locals) (hfc : cells + rm2.cells ≤ R.cells ∧ slots + rm2.slots ≤ R.slots)
    (kk : ∀ (r : Option Value) (hp' : Nat → KE), post r hp' → G p l e R s m args below meth c D dA ad L A nL (cells + rm2.cells) (slots + rm2.slots) Q hp' nx lv (r.toList ++ rest)) : G p l e R s m args below meth c D dA ad L A nL cells slots Q hp pc lv st := by
  have hC0 := hC
  obtain ⟨⟨hx, hb, hml, ho, hts⟩, hr9, hlk, htb, hK, hj1, hnd, hA, hA2⟩ := hC
  obtain ⟨n9, hd, hnx, hn9⟩ := fd_ok htb hf
  obtain rfl : n9 = 3 := hn9.resolve_left (by simp [ilen])
  subst hnx
  subst hst
  intro H locs ls hP hS hl
  obtain ⟨i, hi⟩ := kw_get (dA := dA) (ad := ad) (hp := hp) hk
  rw [hh] at hi
  have hrec := va_recv hK hP hci hi
  have hrun := va_runV (e := e) (below := below) (meth := meth) (locs := locs) (cells := cells) (slots := slots) (As := As.map (em ad)) (rest := rest.map (em ad)) (b := ad k) (C := y.cls) (g := F0 m pc ls ((As.reverse ++ .ref k :: rest).map (em ad))) ⟨hx, hb, hml, ho, hts⟩ (hM H.size) (cwV As.length hts (goodIn_V hm) rfl rfl rfl hm.2 hR) ⟨kPc_blind D dA ad sa L (.ref k :: As) hp H.size, hrec, k_pre hC0 hN hP hS⟩ rfl (by rw [List.length_map]) hl.1 (by simp [em]) (lv_room (by rw [em_cats]; exact hw)) hd hfc
  refine k_run hrun hS (kA_sub hA hA2 hS) (kA_sub hA hA2 hS) (fun r hp' H1 locs1 hpo hP1 hS1 => ?_)
  rw [em_stk]
  exact kk r hp' hpo H1 locs1 ls hP1 hS1 hl
set_option maxHeartbeats 2000000 in
theorem g_callS (hC : CX p s m args meth c own cc nL ret tb D dA ad L A) (hN : NW A sa s s.heap) {pc nx idx maxL2 : Nat} {y : MethodName} {bytes : ByteArray} {ret2 : Option FieldType} {rm2 : Room} {rest st : List Value} {lv : List (Nat × Value)} {post : Option Value → (Nat → KE) → Prop} (As : List Value) (hM : KM l y bytes maxL2 ret2 rm2 D dA ad sa L As hp post) (hf : fd tb pc = some (.invokestatic idx, nx)) (hm : MSK own idx y bytes maxL2 ret2 As.length) (hst : st = As.reverse ++ rest) (hw : (rest.map fun v => v.category).sum ≤ 8) (hR : rm2.frames + 1 ≤ R.frames ∧ 8 + (maxL2 + 11) + rm2.locals ≤ R.locals) (hfc : cells + rm2.cells ≤ R.cells ∧ slots + rm2.slots ≤ R.slots)
    (kk : ∀ (r : Option Value) (hp' : Nat → KE), post r hp' → G p l e R s m args below meth c D dA ad L A nL (cells + rm2.cells) (slots + rm2.slots) Q hp' nx lv (r.toList ++ rest)) : G p l e R s m args below meth c D dA ad L A nL cells slots Q hp pc lv st := by
  have hC0 := hC
  obtain ⟨⟨hx, hb, hml, ho, hts⟩, hr9, hlk, htb, hK, hj1, hnd, hA, hA2⟩ := hC
  obtain ⟨n9, hd, hnx, hn9⟩ := fd_ok htb hf
  obtain rfl : n9 = 3 := hn9.resolve_left (by simp [ilen])
  subst hnx
  subst hst
  intro H locs ls hP hS hl
  have hrun := va_runS (e := e) (below := below) (meth := meth) (locs := locs) (cells := cells) (slots := slots) (As := As.map (em ad)) (rest := rest.map (em ad)) (g := F0 m pc ls ((As.reverse ++ rest).map (em ad))) ⟨hx, hb, hml, ho, hts⟩ (hM H.size) ⟨callB_of As.length hts (goodIn_c hm.1.2.2.2) rfl rfl rfl (hts _ hm.1.2.2.1) (hts _ hm.1.1) hm.2 hR, hts _ hm.1.2.1⟩ ⟨kPc_blind D dA ad sa L As hp H.size, k_pre hC0 hN hP hS⟩ rfl (by rw [List.length_map]) hl.1 (by simp) (lv_room (by rw [em_cats]; exact hw)) hd hfc
  refine k_run hrun hS (kA_sub hA hA2 hS) (kA_sub hA hA2 hS) (fun r hp' H1 locs1 hpo hP1 hS1 => ?_)
  rw [em_stk]
  exact kk r hp' hpo H1 locs1 ls hP1 hS1 hl
set_option maxHeartbeats 2000000 in
theorem g_callN (hC : CX p s m args meth c own cc nL ret tb D dA ad L A) (hN : NW A sa s s.heap) {pc nx idx maxL2 : Nat} {y : MethodName} {bytes : ByteArray} {ret2 : Option FieldType} {rm2 : Room} {rest st : List Value} {lv : List (Nat × Value)} {post : Option Value → (Nat → KE) → Prop} (As : List Value) (hM : KM l y bytes maxL2 ret2 rm2 D dA ad sa L As hp post) (hf : fd tb pc = some (.invokestatic idx, nx)) (hm : MNK own idx y bytes maxL2 ret2 As.length) (hst : st = As.reverse ++ rest) (hw : (rest.map fun v => v.category).sum ≤ 8) (hR : rm2.frames + 1 ≤ R.frames ∧ 8 + (maxL2 + 11) + rm2.locals ≤ R.locals) (hfc : cells + rm2.cells ≤ R.cells ∧ slots + rm2.slots ≤ R.slots)
    (kk : ∀ (r : Option Value) (hp' : Nat → KE), post r hp' → G p l e R s m args below meth c D dA ad L A nL (cells + rm2.cells) (slots + rm2.slots) Q hp' nx lv (r.toList ++ rest)) : G p l e R s m args below meth c D dA ad L A nL cells slots Q hp pc lv st := by
  have hC0 := hC
  obtain ⟨⟨hx, hb, hml, ho, hts⟩, hr9, hlk, htb, hK, hj1, hnd, hA, hA2⟩ := hC
  obtain ⟨n9, hd, hnx, hn9⟩ := fd_ok htb hf
  obtain rfl : n9 = 3 := hn9.resolve_left (by simp [ilen])
  subst hnx
  subst hst
  intro H locs ls hP hS hl
  have hrun := va_runSN (e := e) (below := below) (meth := meth) (locs := locs) (cells := cells) (slots := slots) (host := RX2) (As := As.map (em ad)) (rest := rest.map (em ad)) (g := F0 m pc ls ((As.reverse ++ rest).map (em ad))) ⟨hx, hb, hml, ho, hts⟩ (hM H.size) ⟨va_cnB As.length hts (goodIn_c hm.1.2.2.2) rfl rfl rfl (hN.2.1 _ hm.1.1) (hts _ hm.1.2.2.1) hm.2 hR, hts _ hm.1.2.1, trivial⟩ ⟨kPc_blind D dA ad sa L As hp H.size, k_pre hC0 hN hP hS⟩ rfl (by rw [List.length_map]) hl.1 (by simp) (lv_room (by rw [em_cats]; exact hw)) hd hfc
  refine k_run hrun hS (kA_sub hA hA2 hS) (kA_sub hA hA2 hS) (fun r hp' H1 locs1 hpo hP1 hS1 => ?_)
  rw [em_stk]
  exact kk r hp' hpo H1 locs1 ls hP1 hS1 hl
set_option maxHeartbeats 2000000 in
theorem g_callVX (hC : CX p s m args meth c own cc nL ret tb D dA ad L A) (hN : NW A sa s s.heap) {pc nx idx maxL2 : Nat} {k ci : Nat} {fs : List Value} {y : MethodName} {bytes : ByteArray} {ret2 : Option FieldType} {rm2 : Room} {rest st : List Value} {lv : List (Nat × Value)} {post : Option Value → (Nat → KE) → Prop} {px px0 : String → (Nat → KE) → Prop} {post0 : Option Value → (Nat → KE) → Prop} {mc ms : Nat} (hE : ∀ x ∈ c.exceptionTable.toList, False) (hmc : cells + rm2.cells ≤ mc ∧ slots + rm2.slots ≤ ms) (hpx : ∀ E hp', px E hp' → px0 E hp') (As : List Value) (hM : KX l y bytes maxL2 ret2 rm2 D dA ad sa L (.ref k :: As) hp post px) (hf : fd tb pc = some (.invokevirtual idx, nx)) (hm : MLK own idx y bytes maxL2 ret2 As.length) (hk : k ∈ L) (hh : hp k = kO ci fs) (hci : kcl[ci]? = some (y.cls, fT ci, fN ci)) (hst : st = As.reverse ++ .ref k :: rest) (hw : (rest.map fun v => v.category).sum ≤ 8) (hR : rm2.frames + 1 ≤ R.frames ∧ 8 + (maxL2 + 11) + rm2.locals ≤ R.locals) (hfc : cells + rm2.cells ≤ R.cells ∧ slots + rm2.slots ≤ R.slots)
    (kk : ∀ (r : Option Value) (hp' : Nat → KE), post r hp' → G p l e R s m args below meth c D dA ad L A nL (cells + rm2.cells) (slots + rm2.slots) (vx_MQ below (kR D dA ad L A post0) (kX D dA ad L A px0) args s mc ms A) hp' nx lv (r.toList ++ rest)) : G p l e R s m args below meth c D dA ad L A nL cells slots (vx_MQ below (kR D dA ad L A post0) (kX D dA ad L A px0) args s mc ms A) hp pc lv st := by
  have hC0 := hC
  obtain ⟨⟨hx, hb, hml, ho, hts⟩, hr9, hlk, htb, hK, hj1, hnd, hA, hA2⟩ := hC
  obtain ⟨n9, hd, hnx, hn9⟩ := fd_ok htb hf
  obtain rfl : n9 = 3 := hn9.resolve_left (by simp [ilen])
  subst hnx
  subst hst
  intro H locs ls hP hS hl
  obtain ⟨i, hi⟩ := kw_get (dA := dA) (ad := ad) (hp := hp) hk
  rw [hh] at hi
  have hrec := va_recv hK hP hci hi
  have hrun := vx_runV (e := e) (below := below) (meth := meth) (locs := locs) (cells := cells) (slots := slots) (As := As.map (em ad)) (rest := rest.map (em ad)) (b := ad k) (C := y.cls) (g := F0 m pc ls ((As.reverse ++ .ref k :: rest).map (em ad))) ⟨hx, hb, hml, ho, hts⟩ (hM H.size) (cwV As.length hts (goodIn_V hm) rfl rfl rfl hm.2 hR) ⟨kPc_blind D dA ad sa L (.ref k :: As) hp H.size, hrec, k_pre hC0 hN hP hS⟩ rfl (by rw [List.length_map]) hl.1 (by simp [em]) (lv_room (by rw [em_cats]; exact hw)) hd hfc
  refine k_runx hrun hS (kA_sub hA hA2 hS) (kA_sub hA hA2 hS) (fun E hp' H1 locs1 ce q9 hpe hP1 hS1 hce hcv hcl => vx_out (fun x hx9 => (hE x hx9).elim) hlk hce hcv hcl (fun t ht _ => ⟨⟨hp', hpx E hp' hpe, by rw [ht]; exact hP1⟩, hS1.F ht⟩) hS1.2.2 hmc.1 hmc.2) (fun r hp' H1 locs1 hpo hP1 hS1 => ?_)
  rw [em_stk]
  exact kk r hp' hpo H1 locs1 ls hP1 hS1 hl
set_option maxHeartbeats 2000000 in
theorem g_callSX (hC : CX p s m args meth c own cc nL ret tb D dA ad L A) (hN : NW A sa s s.heap) {pc nx idx maxL2 : Nat} {y : MethodName} {bytes : ByteArray} {ret2 : Option FieldType} {rm2 : Room} {rest st : List Value} {lv : List (Nat × Value)} {post : Option Value → (Nat → KE) → Prop} {px px0 : String → (Nat → KE) → Prop} {post0 : Option Value → (Nat → KE) → Prop} {mc ms : Nat} (hE : ∀ x ∈ c.exceptionTable.toList, False) (hmc : cells + rm2.cells ≤ mc ∧ slots + rm2.slots ≤ ms) (hpx : ∀ E hp', px E hp' → px0 E hp') (As : List Value) (hM : KX l y bytes maxL2 ret2 rm2 D dA ad sa L As hp post px) (hf : fd tb pc = some (.invokestatic idx, nx)) (hm : MSK own idx y bytes maxL2 ret2 As.length) (hst : st = As.reverse ++ rest) (hw : (rest.map fun v => v.category).sum ≤ 8) (hR : rm2.frames + 1 ≤ R.frames ∧ 8 + (maxL2 + 11) + rm2.locals ≤ R.locals) (hfc : cells + rm2.cells ≤ R.cells ∧ slots + rm2.slots ≤ R.slots)
    (kk : ∀ (r : Option Value) (hp' : Nat → KE), post r hp' → G p l e R s m args below meth c D dA ad L A nL (cells + rm2.cells) (slots + rm2.slots) (vx_MQ below (kR D dA ad L A post0) (kX D dA ad L A px0) args s mc ms A) hp' nx lv (r.toList ++ rest)) : G p l e R s m args below meth c D dA ad L A nL cells slots (vx_MQ below (kR D dA ad L A post0) (kX D dA ad L A px0) args s mc ms A) hp pc lv st := by
  have hC0 := hC
  obtain ⟨⟨hx, hb, hml, ho, hts⟩, hr9, hlk, htb, hK, hj1, hnd, hA, hA2⟩ := hC
  obtain ⟨n9, hd, hnx, hn9⟩ := fd_ok htb hf
  obtain rfl : n9 = 3 := hn9.resolve_left (by simp [ilen])
  subst hnx
  subst hst
  intro H locs ls hP hS hl
  have hrun := vx_runS (e := e) (below := below) (meth := meth) (locs := locs) (cells := cells) (slots := slots) (As := As.map (em ad)) (rest := rest.map (em ad)) (g := F0 m pc ls ((As.reverse ++ rest).map (em ad))) ⟨hx, hb, hml, ho, hts⟩ (hM H.size) ⟨callB_of As.length hts (goodIn_c hm.1.2.2.2) rfl rfl rfl (hts _ hm.1.2.2.1) (hts _ hm.1.1) hm.2 hR, hts _ hm.1.2.1⟩ ⟨kPc_blind D dA ad sa L As hp H.size, k_pre hC0 hN hP hS⟩ rfl (by rw [List.length_map]) hl.1 (by simp) (lv_room (by rw [em_cats]; exact hw)) hd hfc
  refine k_runx hrun hS (kA_sub hA hA2 hS) (kA_sub hA hA2 hS) (fun E hp' H1 locs1 ce q9 hpe hP1 hS1 hce hcv hcl => vx_out (fun x hx9 => (hE x hx9).elim) hlk hce hcv hcl (fun t ht _ => ⟨⟨hp', hpx E hp' hpe, by rw [ht]; exact hP1⟩, hS1.F ht⟩) hS1.2.2 hmc.1 hmc.2) (fun r hp' H1 locs1 hpo hP1 hS1 => ?_)
  rw [em_stk]
  exact kk r hp' hpo H1 locs1 ls hP1 hS1 hl
/-- 'throw new E("text")' of the class GatePolynomials -/
def thN : List String := ["java/lang/RuntimeException", "java/lang/Exception"]
def THR (E : String) (ik is ic : Nat) (text : String) : Prop := (Bundle.fit E = true ∧ (∀ n ∈ thN, Bundle.fit n = true)) ∧ Cond.classLink RX2 ik E ∈ WW ∧ Cond.initialized E ∈ WW ∧ (is, text) ∈ strs ∧ (∀ w ∈ vx_atS RX2 ic E thN, w ∈ lw_tbl ∧ (goodWord w || faceW w) = true) ∧ (∀ w ∈ Cond.classLink RX2 ik E :: Cond.initialized E :: vx_atS RX2 ic E thN, vx_ot w = true)
theorem hat_of {E text : String} {ik is ic : Nat} (h : THR E ik is ic text) (hts : ∀ w ∈ WW, w.before args s = true) (hN : NW A sa s s.heap) : ∀ w ∈ vx_atS RX2 ic E thN, w.before args s = true := fun w hw => by
  obtain ⟨h1, h2⟩ := h.2.2.2.2.1 w hw
  by_cases hg : goodWord w = true
  · exact hts w (WW_of h1 hg)
  · have hf : faceW w = true := by
      cases hq : goodWord w with
      | true => exact absurd hq hg
      | false => rw [hq] at h2; exact h2
    have h3 := hN.1 w (TW_of h1 hf)
    exact face_same rfl hf h3
theorem kx_keep {H : Heap} {locs : List Loc} {px : String → (Nat → KE) → Prop} {E : String} (hP : va_P D kcl (kw dA ad L hp) H) (hS : va_S A s.heap H locs) (hpx : px E hp) : ∀ t : State, s.vm.Alike t.vm → H.size ≤ t.heap.size → (∀ q : Nat, q < H.size → t.heap[q]? = H[q]?) → kX D dA ad L A px E s t := fun t _ hz hq =>
  ⟨⟨hp, hpx, hP.kept fun k q hk => hq q.1 (hP k q hk).lt⟩, Nat.le_trans hS.1 hz, fun q h1 h2 => by rw [hq q (Nat.lt_of_lt_of_le h1 hS.1)]; exact hS.2.1 q h1 h2⟩

theorem g_throw {tb : List (Nat × Instr × Nat)} (hC : CX p s m args meth c RX2 cc nL ret tb D dA ad L A) (hN : NW A sa s s.heap) (hE : ∀ x ∈ c.exceptionTable.toList, False) (hfl : l.stackTraces = false) {pc ik is ic mc ms n1 n2 n3 n4 n5 : Nat} {E text : String} {lv : List (Nat × Value)} {post : Option Value → (Nat → KE) → Prop} {px : String → (Nat → KE) → Prop} {rest : List Value}
    (hT : THR E ik is ic text) (d0 : fd tb pc = some (.new ik, n1)) (d3 : fd tb (pc + 3) = some (.dup, n2)) (d4 : fd tb (pc + 4) = some (.ldc is, n3)) (d6 : fd tb (pc + 6) = some (.invokespecial ic, n4)) (d9 : fd tb (pc + 9) = some (.athrow, n5))
    (hR : 5 < R.frames ∧ (rest.map fun v => v.category).sum + 82 ≤ R.locals) (hfc : cells + 1 ≤ R.cells ∧ slots + 6 ≤ R.slots) (hmc : cells + 1 ≤ mc ∧ slots + 6 ≤ ms) (hpx : px E hp) :
    G p l e R s m args below meth c D dA ad L A nL cells slots (vx_MQ below (kR D dA ad L A post) (kX D dA ad L A px) args s mc ms A) hp pc lv rest := by
  obtain ⟨⟨hx, hb, hml, ho, hts⟩, hr9, hlk, htb, hK, hj1, hnd, hA, hA2⟩ := hC
  obtain ⟨k0, e0, -, q0⟩ := fd_ok htb d0
  obtain rfl : k0 = 3 := q0.resolve_left (by simp [ilen])
  obtain ⟨k0, e3, -, q0⟩ := fd_ok htb d3
  obtain rfl : k0 = 1 := q0.resolve_left (by simp [ilen])
  obtain ⟨k0, e4, -, q0⟩ := fd_ok htb d4
  obtain rfl : k0 = 2 := q0.resolve_left (by simp [ilen])
  obtain ⟨k0, e6, -, q0⟩ := fd_ok htb d6
  obtain rfl : k0 = 3 := q0.resolve_left (by simp [ilen])
  obtain ⟨k0, e9, -, q0⟩ := fd_ok htb d9
  obtain rfl : k0 = 1 := q0.resolve_left (by simp [ilen])
  intro H locs ls hP hS hl
  exact vx_throwS (names := thN) hx hb hfl ho hT.1.1 hT.1.2 (hts _ hT.2.1) (hts _ hT.2.2.1) (hN.2.2.1 _ hT.2.2.2.1) (hat_of hT hts hN) hT.2.2.2.2.2 hN.2.2.2.1 hN.2.2.2.2 hS (hl.1.trans hml.symm) e0 e3 e4 e6 e9 (fun x hx9 => (hE x hx9).elim) hR.1 (by rw [em_cats]; exact hR.2) hfc.1 hfc.2 hlk (kx_keep hP hS hpx) hS.2.2 hmc.1 hmc.2
theorem g_throwW {tb : List (Nat × Instr × Nat)} (hC : CX p s m args meth c RX2 cc nL ret tb D dA ad L A) (hN : NW A sa s s.heap) (hE : ∀ x ∈ c.exceptionTable.toList, False) (hfl : l.stackTraces = false) {pc ik is ic mc ms n1 n2 n3 n4 n5 : Nat} {E text : String} {lv : List (Nat × Value)} {post : Option Value → (Nat → KE) → Prop} {px : String → (Nat → KE) → Prop} {rest : List Value}
    (hT : THR E ik is ic text) (d0 : fd tb pc = some (.new ik, n1)) (d3 : fd tb (pc + 3) = some (.dup, n2)) (d4 : fd tb (pc + 4) = some (.ldc_w is, n3)) (d6 : fd tb (pc + 7) = some (.invokespecial ic, n4)) (d9 : fd tb (pc + 10) = some (.athrow, n5))
    (hR : 5 < R.frames ∧ (rest.map fun v => v.category).sum + 82 ≤ R.locals) (hfc : cells + 1 ≤ R.cells ∧ slots + 6 ≤ R.slots) (hmc : cells + 1 ≤ mc ∧ slots + 6 ≤ ms) (hpx : px E hp) :
    G p l e R s m args below meth c D dA ad L A nL cells slots (vx_MQ below (kR D dA ad L A post) (kX D dA ad L A px) args s mc ms A) hp pc lv rest := by
  obtain ⟨⟨hx, hb, hml, ho, hts⟩, hr9, hlk, htb, hK, hj1, hnd, hA, hA2⟩ := hC
  obtain ⟨k0, e0, -, q0⟩ := fd_ok htb d0
  obtain rfl : k0 = 3 := q0.resolve_left (by simp [ilen])
  obtain ⟨k0, e3, -, q0⟩ := fd_ok htb d3
  obtain rfl : k0 = 1 := q0.resolve_left (by simp [ilen])
  obtain ⟨k0, e4, -, q0⟩ := fd_ok htb d4
  obtain rfl : k0 = 3 := q0.resolve_left (by simp [ilen])
  obtain ⟨k0, e6, -, q0⟩ := fd_ok htb d6
  obtain rfl : k0 = 3 := q0.resolve_left (by simp [ilen])
  obtain ⟨k0, e9, -, q0⟩ := fd_ok htb d9
  obtain rfl : k0 = 1 := q0.resolve_left (by simp [ilen])
  intro H locs ls hP hS hl
  exact vx_throwSW (names := thN) hx hb hfl ho hT.1.1 hT.1.2 (hts _ hT.2.1) (hts _ hT.2.2.1) (hN.2.2.1 _ hT.2.2.2.1) (hat_of hT hts hN) hT.2.2.2.2.2 hN.2.2.2.1 hN.2.2.2.2 hS (hl.1.trans hml.symm) e0 e3 e4 e6 e9 (fun x hx9 => (hE x hx9).elim) hR.1 (by rw [em_cats]; exact hR.2) hfc.1 hfc.2 hlk (kx_keep hP hS hpx) hS.2.2 hmc.1 hmc.2
end
