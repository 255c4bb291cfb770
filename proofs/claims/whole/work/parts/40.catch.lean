/-! the law's statics: they catch what the component throws -/
def exL : List String := [ISE, IAE, IOB, AEX, NSE]
def exP : List (String × String) := [(ISE, IAE), (IOB, ISE), (AEX, ISE), (AEX, IOB), (NSE, ISE)]
def NC (U : State) : Prop := (∀ E ∈ exL, va_Nw (.castable E E) U) ∧ ∀ q ∈ exP, va_Nc q.1 q.2 U
theorem NC.warm {s U : State} (hW : s.WarmedH U.vm) (h : NC s) : NC U := ⟨fun E hE => va_Nw.warmC hW (h.1 E hE), fun q hq => va_Nc.moved hW.alike (h.2 q hq)⟩
theorem NC.calling {U : State} {g : JFrame} {mk : MethodId} {a : Array Value} (h : NC U) : NC (U.calling g mk a) := ⟨fun E hE => va_Nw.same rfl (u := U) rfl (h.1 E hE), fun q hq => va_Nc.moved (u := U) (Vm.Alike.refl U.vm) (h.2 q hq)⟩
def kPh (D : va_G) (dA ad sa : Nat → Nat) (L : List Nat) (av : List Value) (hp : Nat → KE) (sz : Nat) : Array Value → State → Prop := fun a U => kPc D dA ad sa L av hp sz a U ∧ NC U
theorem kPh_blind (D : va_G) (dA ad sa : Nat → Nat) (L : List Nat) (av : List Value) (hp : Nat → KE) (sz : Nat) : FrameBlind (kPh D dA ad sa L av hp sz) := fun a U g mk q => ⟨kPc_blind D dA ad sa L av hp sz a U g mk q.1, q.2.calling⟩
/-- a static with a table of handlers: it returns -/
def KH (l : Launch) (y : MethodName) (cc : ByteArray) (maxL : Nat) (hh : List (Nat × Nat × Nat × Nat)) (rm : Room) (D : va_G) (dA ad sa : Nat → Nat) (L : List Nat) (av : List Value) (hp : Nat → KE) (post : Option Value → (Nat → KE) → Prop) : Prop :=
  ∀ sz : Nat, vx_Met l y (Cond.codeWith y cc maxL (some .int) hh :: WW) rm (kPh D dA ad sa L av hp sz) (kR D dA ad L (kA ad L sz) post) (kX D dA ad L (kA ad L sz) (fun _ _ => False)) rm.cells rm.slots (kA ad L sz)
def HND (own : String) (hh : List (Nat × Nat × Nat × Nat)) (pc : Nat) (E : String) (h : Nat) : Prop := ∃ (pre : List (Nat × Nat × Nat × Nat)) (q : Nat × Nat × Nat × Nat) (suf : List (Nat × Nat × Nat × Nat)), hh = pre ++ q :: suf ∧ (∀ z ∈ pre, z.2.2.2 ≠ 0 ∧ ∃ nm : String, Cond.classLink own z.2.2.2 nm ∈ WW ∧ (E, nm) ∈ exP) ∧ covers ⟨q.1, q.2.1, q.2.2.1, q.2.2.2⟩ pc = true ∧ q.2.2.2 ≠ 0 ∧ Cond.classLink own q.2.2.2 E ∈ WW ∧ E ∈ exL ∧ q.2.2.1 = h
section
variable {p : Program} {l : Launch} {e : Env} {R : Room} {s : State} {m : MethodId} {args : Array Value} {below : List Frame} {meth : Method} {c : Code} {D : va_G} {dA ad sa : Nat → Nat} {L : List Nat} {A : Nat → Prop} {nL cells slots : Nat} {Q : State → Prop} {hp : Nat → KE} {own : String} {cc : ByteArray} {ret : Option FieldType} {tb : List (Nat × Instr × Nat)}
theorem KH.of {y : MethodName} {maxL : Nat} {hh : List (Nat × Nat × Nat × Nat)} {rm : Room} {av : List Value} {post : Option Value → (Nat → KE) → Prop} (hy : plainName y.cls = true) (htb : tbOK cc tb = true) (hlen : (lg_sl av).length ≤ maxL) (hj : kinj ad L) (hn : L.Nodup)
    (body : ∀ (p : Program) (e : Env) (s : State) (m : MethodId) (args : Array Value) (below : List Frame) (meth : Method) (c : Code) (A : Nat → Prop), CX p s m args meth c y.cls cc maxL (some .int) tb D dA ad L A → NW A sa s s.heap → NC s → c.exceptionTable.toList = tableOf hh → G p l e rm s m args below meth c D dA ad L A maxL 0 0 (vx_MQ below (kR D dA ad L A post) (kX D dA ad L A (fun _ _ => False)) args s rm.cells rm.slots A) hp 0 (lv_args 0 av) []) :
    KH l y cc maxL hh rm D dA ad sa L av hp post := by
  intro sz
  refine vx_ofWH (cc := cc) (maxL := maxL) (ret := some .int) (hh := hh) hy rfl ?_
  intro p e s m args below meth c s₁ B hml hv
  obtain ⟨⟨h0, hsz, hP, hK, hN⟩, hNC⟩ := hv
  have hts := atoms_spec (ws := Cond.codeWith y cc maxL (some .int) hh :: WW) B.pre
  have htab := vx_table (x := y) B (hts _ List.mem_cons_self)
  have hC : CX p s m args meth c y.cls cc maxL (some .int) tb D dA ad L (kA ad L sz) := ⟨⟨B.exec, B.bytes, hml, findClass_of_methodNamed B.named, fun w hw => hts w (List.mem_cons_of_mem _ hw)⟩, B.returns, B.notSynchronized, htb, hK, hj, hn, fun k hk => Or.inl ⟨k, hk, rfl⟩, fun q h => Or.inr (by rw [← hsz]; exact h)⟩
  have K := body p e s m args below meth c _ hC hN hNC htab
  have hl := lv_entry (av.map (em ad)) (n := maxL) (by rw [sl_len]; exact hlen)
  rw [h0, lg_entry_eq]
  rw [h0] at K
  exact K s.heap [] _ hP va_S.rf (by rw [← args_emL]; exact hl)
/-- behind a catch: the thing caught goes into a local -/
theorem g_caught_n (hC : CX p s m args meth c own cc nL ret tb D dA ad L A) {h nx : Nat} {z : Fin 4} {lv : List (Nat × Value)} (hf : fd tb h = some (.astore_n z, nx)) (hz : (z : Nat) < nL) (k : G p l e R s m args below meth c D dA ad L A nL cells slots Q hp nx [] []) :
    ∀ (H1 : Heap) (locs1 : List Loc) (ls : Array Slot) (q9 : Nat), va_P D kcl (kw dA ad L hp) H1 → va_S A s.heap H1 locs1 → lv_has ls nL (emL ad lv) → W p l e R s m args below meth c H1 locs1 cells slots Q (F0 m h ls [.ref q9]) := by
  obtain ⟨⟨hx, hb, hml, ho, hts⟩, -, -, htb, -⟩ := hC
  obtain ⟨n9, hd, hnx, hn9⟩ := fd_ok htb hf
  obtain rfl : n9 = 1 := hn9.resolve_left (by simp [ilen])
  subst hnx
  exact fun H1 locs1 ls q9 hP hS hl => lv_astore_n hx hb hd rfl hl hz rfl (fun ls' hl' => k H1 locs1 ls' hP hS ⟨hl'.1, hl'.2.1, fun q hq => by cases hq⟩)
theorem g_caught (hC : CX p s m args meth c own cc nL ret tb D dA ad L A) {h nx z : Nat} {lv : List (Nat × Value)} (hf : fd tb h = some (.astore z, nx)) (hz : z < nL) (k : G p l e R s m args below meth c D dA ad L A nL cells slots Q hp nx [] []) :
    ∀ (H1 : Heap) (locs1 : List Loc) (ls : Array Slot) (q9 : Nat), va_P D kcl (kw dA ad L hp) H1 → va_S A s.heap H1 locs1 → lv_has ls nL (emL ad lv) → W p l e R s m args below meth c H1 locs1 cells slots Q (F0 m h ls [.ref q9]) := by
  obtain ⟨⟨hx, hb, hml, ho, hts⟩, -, -, htb, -⟩ := hC
  obtain ⟨n9, hd, hnx, hn9⟩ := fd_ok htb hf
  obtain rfl : n9 = 2 := hn9.resolve_left (by simp [ilen])
  subst hnx
  exact fun H1 locs1 ls q9 hP hS hl => lv_astore hx hb hd hl hz rfl (fun ls' hl' => k H1 locs1 ls' hP hS ⟨hl'.1, hl'.2.1, fun q hq => by cases hq⟩)
set_option maxHeartbeats 2000000 in
theorem g_callVH (hC : CX p s m args meth c own cc nL ret tb D dA ad L A) (hN : NW A sa s s.heap) (hNC : NC s) {hh : List (Nat × Nat × Nat × Nat)} (htab : c.exceptionTable.toList = tableOf hh) {pc nx idx maxL2 : Nat} {k ci : Nat} {fs : List Value} {y : MethodName} {bytes : ByteArray} {ret2 : Option FieldType} {rm2 : Room} {rest st : List Value} {lv : List (Nat × Value)} {post : Option Value → (Nat → KE) → Prop} {px : String → (Nat → KE) → Prop} (As : List Value) (hM : KX l y bytes maxL2 ret2 rm2 D dA ad sa L (.ref k :: As) hp post px) (hf : fd tb pc = some (.invokevirtual idx, nx)) (hm : MLK own idx y bytes maxL2 ret2 As.length) (hk : k ∈ L) (hh2 : hp k = kO ci fs) (hci : kcl[ci]? = some (y.cls, fT ci, fN ci)) (hst : st = As.reverse ++ .ref k :: rest) (hw : (rest.map fun v => v.category).sum ≤ 8) (hR : rm2.frames + 1 ≤ R.frames ∧ 8 + (maxL2 + 11) + rm2.locals ≤ R.locals) (hfc : cells + rm2.cells ≤ R.cells ∧ slots + rm2.slots ≤ R.slots)
    (kx : ∀ (E : String) (hp' : Nat → KE), px E hp' → ∃ h, HND own hh pc E h ∧ ∀ (H1 : Heap) (locs1 : List Loc) (ls : Array Slot) (q9 : Nat), va_P D kcl (kw dA ad L hp') H1 → va_S A s.heap H1 locs1 → lv_has ls nL (emL ad lv) → W p l e R s m args below meth c H1 locs1 (cells + rm2.cells) (slots + rm2.slots) Q (F0 m h ls [.ref q9]))
    (kk : ∀ (r : Option Value) (hp' : Nat → KE), post r hp' → G p l e R s m args below meth c D dA ad L A nL (cells + rm2.cells) (slots + rm2.slots) Q hp' nx lv (r.toList ++ rest)) : G p l e R s m args below meth c D dA ad L A nL cells slots Q hp pc lv st := by
  have hC0 := hC
  obtain ⟨⟨hx, hb, hml, ho, hts⟩, hr9, hlk, htb, hK, hj1, hnd, hA, hA2⟩ := hC
  obtain ⟨n9, hd, hnx, hn9⟩ := fd_ok htb hf
  obtain rfl : n9 = 3 := hn9.resolve_left (by simp [ilen])
  subst hnx
  subst hst
  intro H locs ls hP hS hl
  obtain ⟨i, hi⟩ := kw_get (dA := dA) (ad := ad) (hp := hp) hk
  rw [hh2] at hi
  have hrec := va_recv hK hP hci hi
  have hrun := vx_runV (e := e) (below := below) (meth := meth) (locs := locs) (cells := cells) (slots := slots) (As := As.map (em ad)) (rest := rest.map (em ad)) (b := ad k) (C := y.cls) (g := F0 m pc ls ((As.reverse ++ .ref k :: rest).map (em ad))) ⟨hx, hb, hml, ho, hts⟩ (hM H.size) (cwV As.length hts (goodIn_V hm) rfl rfl rfl hm.2 hR) ⟨kPc_blind D dA ad sa L (.ref k :: As) hp H.size, hrec, k_pre hC0 hN hP hS⟩ rfl (by rw [List.length_map]) hl.1 (by simp [em]) (lv_room (by rw [em_cats]; exact hw)) hd hfc
  refine k_runx hrun hS (kA_sub hA hA2 hS) (kA_sub hA hA2 hS) (fun E hp' H1 locs1 ce q9 hpe hP1 hS1 hce hcv hcl => ?_) (fun r hp' H1 locs1 hpo hP1 hS1 => ?_)
  · obtain ⟨h, ⟨pre, q, suf, e1, hpre, c1, c0, hlk9, hE9, hq⟩, K⟩ := kx E hp' hpe
    subst hq
    refine vx_catch ho (tableOf pre) ⟨q.1, q.2.1, q.2.2.1, q.2.2.2⟩ (tableOf suf) (by rw [htab, e1]; simp [tableOf]) (fun z hz => ?_) c1 c0 (hts _ hlk9) (va_Nw.use rfl (hNC.1 E hE9)) hce hcv hcl (K H1 locs1 ls q9 hP1 hS1 hl)
    obtain ⟨z0, hz0, rfl⟩ := List.mem_map.mp hz
    obtain ⟨z1, nm, z2, z3⟩ := hpre z0 hz0
    exact Or.inr ⟨z1, nm, hts _ z2, hNC.2 _ z3⟩
  · rw [em_stk]
    exact kk r hp' hpo H1 locs1 ls hP1 hS1 hl
end
