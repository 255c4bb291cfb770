/-! contracts over the world; what a state's tables say beside the good words -/
def isAO (w : Cond) : Bool := match w with
  | .arrayOver (.object _) => true
  | _ => false
def faceW (w : Cond) : Bool := (w.onTables && w.keepsFace) || isAO w
def TW : List Cond := lw_tbl.filter faceW
theorem TW_of {w : Cond} (h : w ∈ lw_tbl) (g : faceW w = true) : w ∈ TW := List.mem_filter.mpr ⟨h, g⟩
def strs : List (Nat × String) := [(154, "nine wires are there"), (54, "no such kind or literal"), (66, "no such set"), (73, "40 additions are there"), (156, "not a set of inputs"), (110, "a line would have more than 40 monomials"), (158, "there is no proof"), (160, "no such line"), (122, "no such monomial"), (134, "the line would have more than 40 monomials"), (145, "the rest has no monomials")]
def nests : List (String × Nat × MethodName) := [(RX2, 17, yX1_init), (RX2, 29, yX0_init), (RX0, 61, yX2_bitOf)]
def NW (A : Nat → Prop) (sa : Nat → Nat) (U : State) (H : Heap) : Prop :=
  (∀ w ∈ TW, w.before #[] U = true) ∧ (∀ q ∈ nests, va_Nw (.methodLinkNest q.1 q.2.1 q.2.2 RX2) U) ∧ (∀ q ∈ strs, vk_R RX2 q.1 q.2 (sa q.1) U) ∧
  vx_Zq Bundle.tN "UNASSIGNED_STACK" Bundle.steD A U H ∧ vx_Zq Bundle.tN "SUPPRESSED_SENTINEL" Bundle.listD A U H
theorem isAO_of {w : Cond} (h : isAO w = true) : ∃ C : String, w = .arrayOver (.object C) := by
  unfold isAO at h
  split at h
  · exact ⟨_, rfl⟩
  · cases h
theorem face_at {args a' : Array Value} {s U : State} {w : Cond} (hW : s.WarmedH U.vm) (hg : faceW w = true) (h : w.before args s = true) : w.before a' U = true := by
  simp only [faceW, Bool.and_eq_true, Bool.or_eq_true] at hg
  rcases hg with ⟨h2, h9⟩ | h9
  · have h1 := Cond.before_shiftedFace (State.Shifted.of_warmed hW) w h9 h
    exact va_tabs h2 (rfl : (s.setVm U.vm).vm = U.vm) h1
  · obtain ⟨C9, rfl⟩ := isAO_of h9
    exact va_AO.use (va_AO.moved hW.alike (va_AO.of h))
theorem face_same {args a' : Array Value} {s U : State} {w : Cond} (hv : s.vm = U.vm) (hg : faceW w = true) (h : w.before args s = true) : w.before a' U = true := by
  simp only [faceW, Bool.and_eq_true, Bool.or_eq_true] at hg
  rcases hg with ⟨h2, h9⟩ | h9
  · exact va_tabs h2 hv h
  · obtain ⟨C9, rfl⟩ := isAO_of h9
    exact va_AO.use (va_AO.moved (by rw [hv]; exact Vm.Alike.refl U.vm) (va_AO.of h))
theorem NW.move {A B : Nat → Prop} {sa : Nat → Nat} {s U : State} {H : Heap} {locs : List Loc} (h : NW A sa s s.heap) (hS : va_S A s.heap H locs) (hW : s.WarmedH U.vm) (hAB : ∀ q, B q → A q) : NW B sa U H := by
  obtain ⟨h1, h2, h3, h4, h5⟩ := h
  refine ⟨fun w hw => face_at hW (List.mem_filter.mp hw).2 (h1 w hw), fun q hq => va_Nw.warmM hW (h2 q hq), fun q hq => vk_R.warm hW (h3 q hq), ?_, ?_⟩
  · exact vx_Zq.narrow (vx_Zq.moved hW.alike (vx_Zq.kept h4 hS.2.1)) hAB
  · exact vx_Zq.narrow (vx_Zq.moved hW.alike (vx_Zq.kept h5 hS.2.1)) hAB
theorem NW.calling {A : Nat → Prop} {sa : Nat → Nat} {U : State} {g : JFrame} {mk : MethodId} {a : Array Value} (h : NW A sa U U.heap) : NW A sa (U.calling g mk a) (U.calling g mk a).heap := by
  obtain ⟨h1, h2, h3, h4, h5⟩ := h
  refine ⟨fun w hw => ?_, fun q hq => va_Nw.same rfl (u := U) rfl (h2 q hq), fun q hq => vk_R.same (u := U) rfl (h3 q hq), vx_Zq.moved (u := U) (Vm.Alike.refl U.vm) h4, vx_Zq.moved (u := U) (Vm.Alike.refl U.vm) h5⟩
  exact face_same (s := U) rfl (List.mem_filter.mp hw).2 (h1 w hw)
def kA (ad : Nat → Nat) (L : List Nat) (sz : Nat) : Nat → Prop := fun q => (∃ k ∈ L, ad k = q) ∨ sz ≤ q
def kPc (D : va_G) (dA ad sa : Nat → Nat) (L : List Nat) (av : List Value) (hp : Nat → KE) (sz : Nat) : Array Value → State → Prop :=
  va_Pc (av.map (em ad)) (fun U => U.heap.size = sz ∧ va_P D kcl (kw dA ad L hp) U.heap ∧ va_K D kcl (tysW dA) U ∧ NW (kA ad L sz) sa U U.heap)
def kR (D : va_G) (dA ad : Nat → Nat) (L : List Nat) (A : Nat → Prop) (post : Option Value → (Nat → KE) → Prop) : Array Value → State → Outcome → State → Prop := fun _ st oc t =>
  (∃ (r : Option Value) (hp' : Nat → KE), oc = .returned (r.map (em ad)) ∧ post r hp' ∧ va_P D kcl (kw dA ad L hp') t.heap) ∧ va_F A st t
def kX (D : va_G) (dA ad : Nat → Nat) (L : List Nat) (A : Nat → Prop) (px : String → (Nat → KE) → Prop) : String → State → State → Prop := fun E st t =>
  (∃ hp' : Nat → KE, px E hp' ∧ va_P D kcl (kw dA ad L hp') t.heap) ∧ va_F A st t
/-- the method returns: post of what it answers and of the world behind it -/
def KM (l : Launch) (y : MethodName) (cc : ByteArray) (maxL : Nat) (ret : Option FieldType) (rm : Room) (D : va_G) (dA ad sa : Nat → Nat) (L : List Nat) (av : List Value) (hp : Nat → KE) (post : Option Value → (Nat → KE) → Prop) : Prop :=
  ∀ sz : Nat, Met l y (Cond.code y cc maxL ret :: WW) rm (kPc D dA ad sa L av hp sz) (kR D dA ad L (kA ad L sz) post) rm.cells rm.slots (kA ad L sz)
/-- the method returns, or throws: px of the class of what it throws and of the world behind it -/
def KX (l : Launch) (y : MethodName) (cc : ByteArray) (maxL : Nat) (ret : Option FieldType) (rm : Room) (D : va_G) (dA ad sa : Nat → Nat) (L : List Nat) (av : List Value) (hp : Nat → KE) (post : Option Value → (Nat → KE) → Prop) (px : String → (Nat → KE) → Prop) : Prop :=
  ∀ sz : Nat, vx_Met l y (Cond.code y cc maxL ret :: WW) rm (kPc D dA ad sa L av hp sz) (kR D dA ad L (kA ad L sz) post) (kX D dA ad L (kA ad L sz) px) rm.cells rm.slots (kA ad L sz)
theorem kPc_blind (D : va_G) (dA ad sa : Nat → Nat) (L : List Nat) (av : List Value) (hp : Nat → KE) (sz : Nat) : FrameBlind (kPc D dA ad sa L av hp sz) := fun a U g mk q => by
  obtain ⟨q0, q1, qP, qK, qN⟩ := q
  exact ⟨q0, q1, qP, va_K.moved (u := U) (U := U.calling g mk a) (Vm.Alike.refl U.vm) qK, qN.calling⟩
theorem args_emL (ad : Nat → Nat) : ∀ (i : Nat) (vs : List Value), lv_args i (vs.map (em ad)) = emL ad (lv_args i vs)
  | _, [] => rfl
  | i, v :: vs => by
    show (i, em ad v) :: lv_args (if (em ad v).category = 2 then i + 2 else i + 1) (vs.map (em ad)) = (i, em ad v) :: emL ad (lv_args (if v.category = 2 then i + 2 else i + 1) vs)
    rw [em_cat, args_emL]
theorem sl_len (ad : Nat → Nat) (vs : List Value) : (lg_sl (vs.map (em ad))).length = (lg_sl vs).length := by
  induction vs with
  | nil => rfl
  | cons v vs ih =>
    simp only [lg_sl, List.map_cons, List.flatMap_cons, List.length_append] at ih ⊢
    rw [ih, em_cat]
    congr 1
    by_cases h : v.category = 2 <;> simp [h]
def rmK (d mc ms : Nat) : Room := { frames := d, cells := mc, slots := ms, locals := 40 * d }

section
variable {p : Program} {l : Launch} {e : Env} {R : Room} {s : State} {m : MethodId} {args : Array Value} {below : List Frame} {meth : Method} {c : Code} {D : va_G} {dA ad sa : Nat → Nat} {L : List Nat} {A : Nat → Prop} {nL cells slots : Nat} {Q : State → Prop} {hp : Nat → KE} {own : String} {cc : ByteArray} {ret : Option FieldType} {tb : List (Nat × Instr × Nat)}

theorem cx_of {y : MethodName} {maxL sz : Nat} {rm : Room} {av : List Value} {s₁ : State} (htb : tbOK cc tb = true) (hj : kinj ad L) (hn : L.Nodup) (B : BodyLoose p l y (headSpec (Cond.code y cc maxL ret :: WW) rm) cc maxL ret e s m args below meth c s₁) (hml : c.maxLocals = maxL) (hv : kPc D dA ad sa L av hp sz args s) :
    CX p s m args meth c y.cls cc maxL ret tb D dA ad L (kA ad L sz) ∧ NW (kA ad L sz) sa s s.heap ∧ va_P D kcl (kw dA ad L hp) s.heap ∧ args = (av.map (em ad)).toArray ∧ s.heap.size = sz := by
  obtain ⟨h0, hsz, hP, hK, hN⟩ := hv
  have hts := atoms_spec (ws := Cond.code y cc maxL ret :: WW) B.pre
  exact ⟨⟨⟨B.exec, B.bytes, hml, findClass_of_methodNamed B.named, fun w hw => hts w (List.mem_cons_of_mem _ hw)⟩, B.returns, B.notSynchronized, htb, hK, hj, hn, fun k hk => Or.inl ⟨k, hk, rfl⟩, fun q h => Or.inr (by rw [← hsz]; exact h)⟩, hN, hP, h0, hsz⟩
theorem KM.of {y : MethodName} {maxL : Nat} {rm : Room} {av : List Value} {post : Option Value → (Nat → KE) → Prop} (hy : plainName y.cls = true) (htb : tbOK cc tb = true) (hlen : (lg_sl av).length ≤ maxL) (hj : kinj ad L) (hn : L.Nodup)
    (body : ∀ (p : Program) (e : Env) (s : State) (m : MethodId) (args : Array Value) (below : List Frame) (meth : Method) (c : Code) (A : Nat → Prop), CX p s m args meth c y.cls cc maxL ret tb D dA ad L A → NW A sa s s.heap → G p l e rm s m args below meth c D dA ad L A maxL 0 0 (MQ below (kR D dA ad L A post) args s rm.cells rm.slots A) hp 0 (lv_args 0 av) []) :
    KM l y cc maxL ret rm D dA ad sa L av hp post := by
  intro sz
  refine Met.ofW (cc := cc) (maxL := maxL) (ret := ret) hy rfl ?_
  intro p e s m args below meth c s₁ B hml hv
  obtain ⟨hC, hN, hP, h0, hsz⟩ := cx_of htb hj hn B hml hv
  have K := body p e s m args below meth c _ hC hN
  have hl := lv_entry (av.map (em ad)) (n := maxL) (by rw [sl_len]; exact hlen)
  rw [h0, lg_entry_eq]
  rw [h0] at K
  exact K s.heap [] _ hP va_S.rf (by rw [← args_emL]; exact hl)
theorem KX.of {y : MethodName} {maxL : Nat} {rm : Room} {av : List Value} {post : Option Value → (Nat → KE) → Prop} {px : String → (Nat → KE) → Prop} (hy : plainName y.cls = true) (htb : tbOK cc tb = true) (hlen : (lg_sl av).length ≤ maxL) (hj : kinj ad L) (hn : L.Nodup)
    (body : ∀ (p : Program) (e : Env) (s : State) (m : MethodId) (args : Array Value) (below : List Frame) (meth : Method) (c : Code) (A : Nat → Prop), CX p s m args meth c y.cls cc maxL ret tb D dA ad L A → NW A sa s s.heap → (∀ x ∈ c.exceptionTable.toList, False) → G p l e rm s m args below meth c D dA ad L A maxL 0 0 (vx_MQ below (kR D dA ad L A post) (kX D dA ad L A px) args s rm.cells rm.slots A) hp 0 (lv_args 0 av) []) :
    KX l y cc maxL ret rm D dA ad sa L av hp post px := by
  intro sz
  refine vx_ofW (cc := cc) (maxL := maxL) (ret := ret) hy rfl ?_
  intro p e s m args below meth c s₁ B hml hE hv
  obtain ⟨hC, hN, hP, h0, hsz⟩ := cx_of htb hj hn B hml hv
  have K := body p e s m args below meth c _ hC hN hE
  have hl := lv_entry (av.map (em ad)) (n := maxL) (by rw [sl_len]; exact hlen)
  rw [h0, lg_entry_eq]
  rw [h0] at K
  exact K s.heap [] _ hP va_S.rf (by rw [← args_emL]; exact hl)
theorem g_ret (hC : CX p s m args meth c own cc nL ret tb D dA ad L A) {pc nx mc ms : Nat} {lv : List (Nat × Value)} {post : Option Value → (Nat → KE) → Prop} (hf : fd tb pc = some (.return_, nx)) (hrr : ret = none) (hpost : post none hp) (h1 : cells ≤ mc) (h2 : slots ≤ ms) :
    G p l e R s m args below meth c D dA ad L A nL cells slots (MQ below (kR D dA ad L A post) args s mc ms A) hp pc lv [] := by
  obtain ⟨⟨hx, hb, -, -, -⟩, hr, hlk, htb, -⟩ := hC
  obtain ⟨n, hd, hnx, hn⟩ := fd_ok htb hf
  obtain rfl : n = 1 := hn.resolve_left (by simp [ilen])
  intro H locs ls hP hS hl
  exact W.widen h1 h2 (W.vret hx hb (hr.trans hrr) (fun t ht hW => ⟨⟨none, hp, rfl, hpost, by rw [ht]; exact hP⟩, hS.F ht⟩) hS.2.2 hd hlk)
theorem gx_ret (hC : CX p s m args meth c own cc nL ret tb D dA ad L A) {pc nx mc ms : Nat} {lv : List (Nat × Value)} {post : Option Value → (Nat → KE) → Prop} {XC : String → State → State → Prop} (hf : fd tb pc = some (.return_, nx)) (hrr : ret = none) (hpost : post none hp) (h1 : cells ≤ mc) (h2 : slots ≤ ms) :
    G p l e R s m args below meth c D dA ad L A nL cells slots (vx_MQ below (kR D dA ad L A post) XC args s mc ms A) hp pc lv [] :=
  fun H locs ls hP hS hl => vx_ret (g_ret hC hf hrr hpost h1 h2 H locs ls hP hS hl)
theorem g_iret (hC : CX p s m args meth c own cc nL ret tb D dA ad L A) {pc nx mc ms : Nat} {lv : List (Nat × Value)} {post : Option Value → (Nat → KE) → Prop} {v : Int32} (hf : fd tb pc = some (.ireturn, nx)) (hrr : ret = some .int) (hpost : post (some (.int v)) hp) (h1 : cells ≤ mc) (h2 : slots ≤ ms) :
    G p l e R s m args below meth c D dA ad L A nL cells slots (MQ below (kR D dA ad L A post) args s mc ms A) hp pc lv [.int v] := by
  obtain ⟨⟨hx, hb, -, -, -⟩, hr, hlk, htb, -⟩ := hC
  obtain ⟨n, hd, hnx, hn⟩ := fd_ok htb hf
  obtain rfl : n = 1 := hn.resolve_left (by simp [ilen])
  intro H locs ls hP hS hl
  exact W.widen h1 h2 (W.iret hx hb (hr.trans hrr) (fun t ht hW => ⟨⟨(some (.int v)), hp, rfl, hpost, by rw [ht]; exact hP⟩, hS.F ht⟩) hS.2.2 hd hlk)
theorem gx_iret (hC : CX p s m args meth c own cc nL ret tb D dA ad L A) {pc nx mc ms : Nat} {lv : List (Nat × Value)} {post : Option Value → (Nat → KE) → Prop} {XC : String → State → State → Prop} {v : Int32} (hf : fd tb pc = some (.ireturn, nx)) (hrr : ret = some .int) (hpost : post (some (.int v)) hp) (h1 : cells ≤ mc) (h2 : slots ≤ ms) :
    G p l e R s m args below meth c D dA ad L A nL cells slots (vx_MQ below (kR D dA ad L A post) XC args s mc ms A) hp pc lv [.int v] :=
  fun H locs ls hP hS hl => vx_ret (g_iret hC hf hrr hpost h1 h2 H locs ls hP hS hl)
theorem g_lret (hC : CX p s m args meth c own cc nL ret tb D dA ad L A) {pc nx mc ms : Nat} {lv : List (Nat × Value)} {post : Option Value → (Nat → KE) → Prop} {v : Int64} (hf : fd tb pc = some (.lreturn, nx)) (hrr : ret = some .long) (hpost : post (some (.long v)) hp) (h1 : cells ≤ mc) (h2 : slots ≤ ms) :
    G p l e R s m args below meth c D dA ad L A nL cells slots (MQ below (kR D dA ad L A post) args s mc ms A) hp pc lv [.long v] := by
  obtain ⟨⟨hx, hb, -, -, -⟩, hr, hlk, htb, -⟩ := hC
  obtain ⟨n, hd, hnx, hn⟩ := fd_ok htb hf
  obtain rfl : n = 1 := hn.resolve_left (by simp [ilen])
  intro H locs ls hP hS hl
  exact W.widen h1 h2 (W.lret hx hb (hr.trans hrr) (fun t ht hW => ⟨⟨(some (.long v)), hp, rfl, hpost, by rw [ht]; exact hP⟩, hS.F ht⟩) hS.2.2 hd hlk)
theorem gx_lret (hC : CX p s m args meth c own cc nL ret tb D dA ad L A) {pc nx mc ms : Nat} {lv : List (Nat × Value)} {post : Option Value → (Nat → KE) → Prop} {XC : String → State → State → Prop} {v : Int64} (hf : fd tb pc = some (.lreturn, nx)) (hrr : ret = some .long) (hpost : post (some (.long v)) hp) (h1 : cells ≤ mc) (h2 : slots ≤ ms) :
    G p l e R s m args below meth c D dA ad L A nL cells slots (vx_MQ below (kR D dA ad L A post) XC args s mc ms A) hp pc lv [.long v] :=
  fun H locs ls hP hS hl => vx_ret (g_lret hC hf hrr hpost h1 h2 H locs ls hP hS hl)
theorem g_zret (hC : CX p s m args meth c own cc nL ret tb D dA ad L A) {pc nx mc ms : Nat} {lv : List (Nat × Value)} {post : Option Value → (Nat → KE) → Prop} {v : Int32} (hz : narrow .boolean (.int v) = .int v) (hf : fd tb pc = some (.ireturn, nx)) (hrr : ret = some .boolean) (hpost : post (some (.int v)) hp) (h1 : cells ≤ mc) (h2 : slots ≤ ms) :
    G p l e R s m args below meth c D dA ad L A nL cells slots (MQ below (kR D dA ad L A post) args s mc ms A) hp pc lv [.int v] := by
  obtain ⟨⟨hx, hb, -, -, -⟩, hr, hlk, htb, -⟩ := hC
  obtain ⟨n, hd, hnx, hn⟩ := fd_ok htb hf
  obtain rfl : n = 1 := hn.resolve_left (by simp [ilen])
  intro H locs ls hP hS hl
  exact W.widen h1 h2 (W.zret hx hb (hr.trans hrr) hz (fun t ht hW => ⟨⟨(some (.int v)), hp, rfl, hpost, by rw [ht]; exact hP⟩, hS.F ht⟩) hS.2.2 hd hlk)
theorem gx_zret (hC : CX p s m args meth c own cc nL ret tb D dA ad L A) {pc nx mc ms : Nat} {lv : List (Nat × Value)} {post : Option Value → (Nat → KE) → Prop} {XC : String → State → State → Prop} {v : Int32} (hz : narrow .boolean (.int v) = .int v) (hf : fd tb pc = some (.ireturn, nx)) (hrr : ret = some .boolean) (hpost : post (some (.int v)) hp) (h1 : cells ≤ mc) (h2 : slots ≤ ms) :
    G p l e R s m args below meth c D dA ad L A nL cells slots (vx_MQ below (kR D dA ad L A post) XC args s mc ms A) hp pc lv [.int v] :=
  fun H locs ls hP hS hl => vx_ret (g_zret hC hz hf hrr hpost h1 h2 H locs ls hP hS hl)
theorem g_aret (hC : CX p s m args meth c own cc nL ret tb D dA ad L A) {pc nx mc ms : Nat} {lv : List (Nat × Value)} {post : Option Value → (Nat → KE) → Prop} {v : Nat} {C9 : String} (hf : fd tb pc = some (.areturn, nx)) (hrr : ret = some (.object C9)) (hpost : post (some (.ref v)) hp) (h1 : cells ≤ mc) (h2 : slots ≤ ms) :
    G p l e R s m args below meth c D dA ad L A nL cells slots (MQ below (kR D dA ad L A post) args s mc ms A) hp pc lv [.ref v] := by
  obtain ⟨⟨hx, hb, -, -, -⟩, hr, hlk, htb, -⟩ := hC
  obtain ⟨n, hd, hnx, hn⟩ := fd_ok htb hf
  obtain rfl : n = 1 := hn.resolve_left (by simp [ilen])
  intro H locs ls hP hS hl
  exact W.widen h1 h2 (W.aret hx hb (hr.trans hrr) (Or.inl ⟨_, rfl⟩) (Or.inr ⟨_, rfl⟩) (fun t ht hW => ⟨⟨(some (.ref v)), hp, rfl, hpost, by rw [ht]; exact hP⟩, hS.F ht⟩) hS.2.2 hd hlk)
theorem gx_aret (hC : CX p s m args meth c own cc nL ret tb D dA ad L A) {pc nx mc ms : Nat} {lv : List (Nat × Value)} {post : Option Value → (Nat → KE) → Prop} {XC : String → State → State → Prop} {v : Nat} {C9 : String} (hf : fd tb pc = some (.areturn, nx)) (hrr : ret = some (.object C9)) (hpost : post (some (.ref v)) hp) (h1 : cells ≤ mc) (h2 : slots ≤ ms) :
    G p l e R s m args below meth c D dA ad L A nL cells slots (vx_MQ below (kR D dA ad L A post) XC args s mc ms A) hp pc lv [.ref v] :=
  fun H locs ls hP hS hl => vx_ret (g_aret hC hf hrr hpost h1 h2 H locs ls hP hS hl)
end
