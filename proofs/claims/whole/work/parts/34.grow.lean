/-! worlds that grow -/
def rfV (L : List Nat) (v : Value) : Prop := ∀ k, v = .ref k → k ∈ L
def rfE (L : List Nat) (x : KE) : Prop := match x with
  | .inl (_, _, .inr (.inr (.inr (.inr f)))) => ∀ j k, f j = some k → k ∈ L
  | .inl _ => True
  | .inr (_, fs) => ∀ v ∈ fs, rfV L v
def CLO (L : List Nat) (hp : Nat → KE) : Prop := ∀ j ∈ L, rfE L (hp j)
theorem rfV.mono {L L2 : List Nat} (h : ∀ k ∈ L, k ∈ L2) {v : Value} (hv : rfV L v) : rfV L2 v := fun k e => h k (hv k e)
theorem rfE.mono {L L2 : List Nat} (h : ∀ k ∈ L, k ∈ L2) {x : KE} (hx : rfE L x) : rfE L2 x := by
  rcases x with ⟨t, n, f | f | f | f | f⟩ | ⟨ci, fs⟩
  · trivial
  · trivial
  · trivial
  · trivial
  · exact fun j k e => h k (hx j k e)
  · exact fun v hv => (hx v hv).mono h
theorem CLO.up {L : List Nat} {hp : Nat → KE} {k : Nat} {e : KE} (h : CLO L hp) (he : rfE L e) : CLO L (va_up hp k e) := fun j hj => by
  by_cases z : j = k
  · subst z; rw [va_up_self]; exact he
  · rw [va_up_ne _ _ z]; exact h j hj
theorem em_ag {ad ad2 : Nat → Nat} {L : List Nat} (h : ∀ j ∈ L, ad2 j = ad j) {v : Value} (hv : rfV L v) : em ad2 v = em ad v := by
  cases v with
  | ref k => show Value.ref (ad2 k) = Value.ref (ad k); rw [h k (hv k rfl)]
  | _ => rfl
theorem emE_ag {dA ad ad2 : Nat → Nat} {L : List Nat} (h : ∀ j ∈ L, ad2 j = ad j) {x : KE} (hx : rfE L x) : emE dA ad2 x = emE dA ad x := by
  rcases x with ⟨t, n, f | f | f | f | f⟩ | ⟨ci, fs⟩
  · rfl
  · rfl
  · rfl
  · rfl
  · have e : (fun j => (f j).map ad2) = fun j => (f j).map ad := by
      funext j
      cases hf : f j with
      | none => rfl
      | some k => show some (ad2 k) = some (ad k); rw [h k (hx j k hf)]
    show (Sum.inl (dA t, (n, .inr (.inr (.inr (.inr (fun j => (f j).map ad2)))))) : va_E) = _
    rw [e]
    rfl
  · show (Sum.inr (ci, fs.map (em ad2)) : va_E) = Sum.inr (ci, fs.map (em ad))
    rw [List.map_congr_left (fun v hv => em_ag h (hx v hv))]
theorem kw_ag {dA ad ad2 : Nat → Nat} {L : List Nat} {hp : Nat → KE} (h : ∀ j ∈ L, ad2 j = ad j) (hc : CLO L hp) : kw dA ad2 L hp = kw dA ad L hp := List.map_congr_left (fun k hk => by rw [h k hk, emE_ag h (hc k hk)])
theorem kw_push {dA ad : Nat → Nat} {L : List Nat} {hp : Nat → KE} {k q : Nat} {e : KE} (hk : ¬ k ∈ L) (hc : CLO L hp) : kw dA (va_up ad k q) (L ++ [k]) (va_up hp k e) = kw dA ad L hp ++ [(q, emE dA (va_up ad k q) e)] := by
  have h1 : ∀ j ∈ L, va_up ad k q j = ad j := fun j hj => va_up_ne _ _ (fun z => hk (by rw [← z]; exact hj))
  have h2 : kw dA (va_up ad k q) L (va_up hp k e) = kw dA ad L hp := List.map_congr_left (fun j hj => by
    rw [h1 j hj, show va_up hp k e j = hp j from va_up_ne _ _ (fun z => hk (by rw [← z]; exact hj)), emE_ag h1 (hc j hj)])
  rw [← h2]
  show List.map _ (L ++ [k]) = _
  rw [List.map_append, List.map_cons, List.map_nil, va_up_self, va_up_self]
  rfl
theorem D_at {dA ad : Nat → Nat} {L : List Nat} {hp : Nat → KE} {k : Nat} (hk : k ∈ L) : ∃ i : Nat, L[i]? = some k ∧ (kw dA ad L hp)[i]? = some (ad k, emE dA ad (hp k)) := by
  obtain ⟨i, hi⟩ := List.getElem?_of_mem hk
  exact ⟨i, hi, by simp [kw, hi]⟩
theorem D_kinj {dA ad : Nat → Nat} {L : List Nat} {hp : Nat → KE} {A : Nat → Prop} (h : va_D A (kw dA ad L hp)) : kinj ad L ∧ ∀ k ∈ L, A (ad k) := by
  refine ⟨fun a ha b hb e => ?_, fun k hk => ?_⟩
  · obtain ⟨i, i1, i2⟩ := D_at (dA := dA) (ad := ad) (hp := hp) ha
    obtain ⟨j, j1, j2⟩ := D_at (dA := dA) (ad := ad) (hp := hp) hb
    have := h.1 i j _ _ i2 j2 e
    subst this
    exact Option.some.inj (i1.symm.trans j1)
  · obtain ⟨i, i1, i2⟩ := D_at (dA := dA) (ad := ad) (hp := hp) hk
    exact h.2 i _ i2
def kC (D : va_G) (dA ad : Nat → Nat) (L : List Nat) (A : Nat → Prop) (nk : List Nat) (post : (Nat → KE) → Prop) : Array Value → State → Outcome → State → Prop := fun _ st oc t =>
  (oc = .returned none ∧ ∃ (ad2 : Nat → Nat) (hp' : Nat → KE), (∀ j ∈ L, ad2 j = ad j) ∧ kinj ad2 (L ++ nk) ∧ (∀ j ∈ L ++ nk, A (ad2 j)) ∧ CLO (L ++ nk) hp' ∧ post hp' ∧ va_P D kcl (kw dA ad2 (L ++ nk) hp') t.heap) ∧ va_F A st t
/-- a constructor: it makes the cells of the keys nk -/
def KC (l : Launch) (y : MethodName) (cc : ByteArray) (maxL : Nat) (rm : Room) (D : va_G) (dA ad sa : Nat → Nat) (L : List Nat) (av : List Value) (hp : Nat → KE) (nk : List Nat) (post : (Nat → KE) → Prop) : Prop :=
  ∀ sz : Nat, Met l y (Cond.code y cc maxL none :: WW) rm (kPc D dA ad sa L av hp sz) (kC D dA ad L (kA ad L sz) nk post) rm.cells rm.slots (kA ad L sz)
theorem name_of_loose {p : Program} {l : Launch} {e : Env} {s : State} {m : MethodId} {args : Array Value} {below : List Frame} {meth : Method} {c : Code} {s₁ : State} {y : MethodName} {sp : Spec} {cc : ByteArray} {maxL : Nat} {ret : Option FieldType} (B : BodyLoose p l y sp cc maxL ret e s m args below meth c s₁) : meth.name = y.name := (name_of_methodNamed B.named B.method).1
section
variable {p : Program} {l : Launch} {e : Env} {R : Room} {s : State} {m : MethodId} {args : Array Value} {below : List Frame} {meth : Method} {c : Code} {D : va_G} {dA ad sa : Nat → Nat} {L : List Nat} {A : Nat → Prop} {nL cells slots : Nat} {Q : State → Prop} {hp : Nat → KE} {own : String} {cc : ByteArray} {ret : Option FieldType} {tb : List (Nat × Instr × Nat)}
theorem KC.of {y : MethodName} {maxL : Nat} {rm : Room} {av : List Value} {nk : List Nat} {post : (Nat → KE) → Prop} (hy : plainName y.cls = true) (htb : tbOK cc tb = true) (hlen : (lg_sl av).length ≤ maxL) (hj : kinj ad L) (hn : L.Nodup) (hi : y.name = "<init>")
    (body : ∀ (p : Program) (e : Env) (s : State) (m : MethodId) (args : Array Value) (below : List Frame) (meth : Method) (c : Code) (A : Nat → Prop), CX p s m args meth c y.cls cc maxL none tb D dA ad L A → NW A sa s s.heap → meth.name = "<init>" → G p l e rm s m args below meth c D dA ad L A maxL 0 0 (MQ below (kC D dA ad L A nk post) args s rm.cells rm.slots A) hp 0 (lv_args 0 av) []) :
    KC l y cc maxL rm D dA ad sa L av hp nk post := by
  intro sz
  refine Met.ofW (cc := cc) (maxL := maxL) (ret := none) hy rfl ?_
  intro p e s m args below meth c s₁ B hml hv
  obtain ⟨hC, hN, hP, h0, hsz⟩ := cx_of htb hj hn B hml hv
  have K := body p e s m args below meth c _ hC hN ((name_of_loose B).trans hi)
  have hl := lv_entry (av.map (em ad)) (n := maxL) (by rw [sl_len]; exact hlen)
  rw [h0, lg_entry_eq]
  rw [h0] at K
  exact K s.heap [] _ hP va_S.rf (by rw [← args_emL]; exact hl)
/-- a new cell: the world grows by the key k -/
theorem g_grow (hC : CX p s m args meth c own cc nL ret tb D dA ad L A) {k nx : Nat} {x : KE} (hk : ¬ k ∈ L) (hcl : CLO L hp) (hx : rfE (L ++ [k]) x) (hx2 : ∀ a1 a2 : Nat → Nat, emE dA a1 x = emE dA a2 x) {lv : List (Nat × Value)} {st : List Value} (hlv : ∀ q ∈ lv, rfV L q.2) (hst : ∀ v ∈ st, rfV L v) {cells1 slots1 : Nat}
    (kk : ∀ ad2 : Nat → Nat, (∀ j ∈ L, ad2 j = ad j) → CX p s m args meth c own cc nL ret tb D dA ad2 (L ++ [k]) A → CLO (L ++ [k]) (va_up hp k x) → G p l e R s m args below meth c D dA ad2 (L ++ [k]) A nL cells1 slots1 Q (va_up hp k x) nx lv (.ref k :: st))
    {q : Nat} {H1 : Heap} {locs : List Loc} {ls : Array Slot} (hP : va_P D kcl (kw dA ad L hp ++ [(q, emE dA ad x)]) H1) (hD : va_D A (kw dA ad L hp ++ [(q, emE dA ad x)])) (hS : va_S A s.heap H1 locs) (hl : lv_has ls nL (emL ad lv)) : W p l e R s m args below meth c H1 locs cells1 slots1 Q (F0 m nx ls (.ref q :: st.map (em ad))) := by
  have h1 : ∀ j ∈ L, va_up ad k q j = ad j := fun j hj => va_up_ne _ _ (fun z => hk (by rw [← z]; exact hj))
  rw [hx2 ad (va_up ad k q), ← kw_push hk hcl] at hP hD
  obtain ⟨d1, d2⟩ := D_kinj hD
  obtain ⟨c1, c2, c3, c4, c5, c6, c7, c8, c9⟩ := hC
  have hsub : ∀ j ∈ L, j ∈ L ++ [k] := fun j hj => List.mem_append_left _ hj
  have K := kk (va_up ad k q) h1 ⟨c1, c2, c3, c4, c5, d1, List.nodup_append.mpr ⟨c7, List.nodup_cons.mpr ⟨List.not_mem_nil, List.nodup_nil⟩, fun a ha b hb z => hk (by rw [List.mem_singleton.mp hb] at z; rw [← z]; exact ha)⟩, d2, c9⟩ (fun j hj => by
    by_cases z : j = k
    · subst z; rw [va_up_self]; exact hx
    · rw [va_up_ne _ _ z]
      exact (hcl j ((List.mem_append.mp hj).resolve_right (fun w => z (List.mem_singleton.mp w)))).mono hsub)
  have e1 : emL (va_up ad k q) lv = emL ad lv := List.map_congr_left (fun w hw => by rw [em_ag h1 (hlv w hw)])
  have e2 : (Value.ref k :: st).map (em (va_up ad k q)) = .ref q :: st.map (em ad) := by
    rw [List.map_cons, List.map_congr_left (fun v hv => em_ag h1 (hst v hv))]
    show Value.ref (va_up ad k q k) :: _ = _
    rw [va_up_self]
  rw [← e2]
  exact K H1 locs ls hP hS (by rw [e1]; exact hl)
def NEW (own : String) (idx ci : Nat) (fs : List Value) : Prop := kcl[ci]? = some (fC ci, fT ci, fN ci) ∧ Cond.classLink own idx (fC ci) ∈ WW ∧ Cond.instantiable (fC ci) (fN ci) ∈ WW ∧ Cond.initialized (fC ci) ∈ WW ∧ (∀ w ∈ u_ws (fC ci) (fT ci) (fN ci), w ∈ WW) ∧ (∀ k, k < fN ci → parseFieldDescriptor (fT ci k).2.2.1 = some (ftY ci k)) ∧ (∀ j, j < fN ci → defaultValue (ftY ci j) = vp_V fs j) ∧ (∀ v ∈ fs, ∀ k, ¬ v = .ref k)
theorem em_no {ad : Nat → Nat} {fs : List Value} (h : ∀ v ∈ fs, ∀ k, ¬ v = .ref k) : fs.map (em ad) = fs := by
  have h2 : ∀ v ∈ fs, em ad v = v := fun v hv => by
    cases v with
    | ref k => exact absurd rfl (h _ hv k)
    | _ => rfl
  rw [List.map_congr_left h2, List.map_id']
theorem g_new (hC : CX p s m args meth c own cc nL ret tb D dA ad L A) {pc nx idx ci k : Nat} {fs : List Value} (hf : fd tb pc = some (.new idx, nx)) (hN : NEW own idx ci fs) (hk : ¬ k ∈ L) (hcl : CLO L hp) {lv : List (Nat × Value)} {st : List Value} (hlv : ∀ q ∈ lv, rfV L q.2) (hst : ∀ v ∈ st, rfV L v) (hfc : cells + 1 ≤ R.cells ∧ slots + fN ci ≤ R.slots)
    (kk : ∀ ad2 : Nat → Nat, (∀ j ∈ L, ad2 j = ad j) → CX p s m args meth c own cc nL ret tb D dA ad2 (L ++ [k]) A → CLO (L ++ [k]) (va_up hp k (kO ci fs)) → G p l e R s m args below meth c D dA ad2 (L ++ [k]) A nL (cells + 1) (slots + fN ci) Q (va_up hp k (kO ci fs)) nx lv (.ref k :: st)) : G p l e R s m args below meth c D dA ad L A nL cells slots Q hp pc lv st := by
  have hC0 := hC
  obtain ⟨⟨hx, hb, hml, ho, hts⟩, -, -, htb, hK, hj1, hnd, hA, hA2⟩ := hC
  obtain ⟨n, hd, hnx, hn⟩ := fd_ok htb hf
  obtain rfl : n = 3 := hn.resolve_left (by simp [ilen])
  subst hnx
  obtain ⟨n1, n2, n3, n4, n5, n6, n7, n8⟩ := hN
  intro H locs ls hP hS hl
  refine va_new (D := D) (C := fC ci) (T := fT ci) (N := fN ci) hx hb hts n5 (ftY ci) n6 ho (hts _ n2) (hts _ n3) (hts _ n4) hK hP (kw_D hj1 hnd hA) hS hA2 n1 n7 hfc.1 hfc.2 hd (fun q H1 hP1 hD1 hS1 => ?_)
  have e1 : ∀ a1 : Nat → Nat, emE dA a1 (kO ci fs) = (.inr (ci, fs) : va_E) := fun a1 => by
    show (.inr (ci, fs.map (em a1)) : va_E) = _
    rw [em_no n8]
  exact g_grow (x := kO ci fs) hC0 hk hcl (fun v hv k9 e9 => absurd e9 (n8 v hv k9)) (fun a1 a2 => (e1 a1).trans (e1 a2).symm) hlv hst kk (by rw [e1]; exact hP1) (by rw [e1]; exact hD1) hS1 hl
theorem g_newaI (hC : CX p s m args meth c own cc nL ret tb D dA ad L A) {pc nx k N : Nat} (hf : fd tb pc = some (.newarray .int, nx)) (hN : N ≤ 100000) (hk : ¬ k ∈ L) (hcl : CLO L hp) {lv : List (Nat × Value)} {st : List Value} (hlv : ∀ q ∈ lv, rfV L q.2) (hst : ∀ v ∈ st, rfV L v) (hfc : cells + 1 ≤ R.cells ∧ slots + N ≤ R.slots)
    (kk : ∀ ad2 : Nat → Nat, (∀ j ∈ L, ad2 j = ad j) → CX p s m args meth c own cc nL ret tb D dA ad2 (L ++ [k]) A → CLO (L ++ [k]) (va_up hp k (kI N (fun _ => 0))) → G p l e R s m args below meth c D dA ad2 (L ++ [k]) A nL (cells + 1) (slots + N) Q (va_up hp k (kI N (fun _ => 0))) nx lv (.ref k :: st)) : G p l e R s m args below meth c D dA ad L A nL cells slots Q hp pc lv (.int (nI N) :: st) := by
  have hC0 := hC
  obtain ⟨⟨hx, hb, hml, ho, hts⟩, -, -, htb, hK, hj1, hnd, hA, hA2⟩ := hC
  obtain ⟨n, hd, hnx, hn⟩ := fd_ok htb hf
  obtain rfl : n = 2 := hn.resolve_left (by simp [ilen])
  subst hnx
  intro H locs ls hP hS hl
  refine va_newa (D := D) (atype := .int) (ty := .int) (a0 := (N, .inl (fun _ => 0))) hx hb (hts _ aC_int) rfl hK hP (kw_D hj1 hnd hA) hS hA2 (fun _ => rfl) (nI_pos (by omega)) (nI_clamp (by omega)) (by show N * 4 ≤ _; omega) hfc.1 hfc.2 hd (fun q cA H1 hK1 hP1 hD1 hS1 => ?_)
  have e1 : cA = dA 0 := by
    have h1 : s.vm.findClass ("[" ++ FieldType.int.toString) = some (dA 0) := (hK.2 0 _ rfl).2
    have h2 : s.vm.findClass ("[" ++ FieldType.int.toString) = some cA := (hK1.2 4 (cA, .int) rfl).2
    exact Option.some.inj (h2.symm.trans h1)
  subst e1
  exact g_grow (x := kI N (fun _ => 0)) hC0 hk hcl trivial (fun _ _ => rfl) hlv hst kk hP1 hD1 hS1 hl
theorem g_newaJ (hC : CX p s m args meth c own cc nL ret tb D dA ad L A) {pc nx k N : Nat} (hf : fd tb pc = some (.newarray .long, nx)) (hN : N ≤ 100000) (hk : ¬ k ∈ L) (hcl : CLO L hp) {lv : List (Nat × Value)} {st : List Value} (hlv : ∀ q ∈ lv, rfV L q.2) (hst : ∀ v ∈ st, rfV L v) (hfc : cells + 1 ≤ R.cells ∧ slots + N ≤ R.slots)
    (kk : ∀ ad2 : Nat → Nat, (∀ j ∈ L, ad2 j = ad j) → CX p s m args meth c own cc nL ret tb D dA ad2 (L ++ [k]) A → CLO (L ++ [k]) (va_up hp k (kJ N (fun _ => 0))) → G p l e R s m args below meth c D dA ad2 (L ++ [k]) A nL (cells + 1) (slots + N) Q (va_up hp k (kJ N (fun _ => 0))) nx lv (.ref k :: st)) : G p l e R s m args below meth c D dA ad L A nL cells slots Q hp pc lv (.int (nI N) :: st) := by
  have hC0 := hC
  obtain ⟨⟨hx, hb, hml, ho, hts⟩, -, -, htb, hK, hj1, hnd, hA, hA2⟩ := hC
  obtain ⟨n, hd, hnx, hn⟩ := fd_ok htb hf
  obtain rfl : n = 2 := hn.resolve_left (by simp [ilen])
  subst hnx
  intro H locs ls hP hS hl
  refine va_newa (D := D) (atype := .long) (ty := .long) (a0 := (N, .inr (.inl (fun _ => 0)))) hx hb (hts _ aC_long) rfl hK hP (kw_D hj1 hnd hA) hS hA2 (fun _ => rfl) (nI_pos (by omega)) (nI_clamp (by omega)) (by show N * 8 ≤ _; omega) hfc.1 hfc.2 hd (fun q cA H1 hK1 hP1 hD1 hS1 => ?_)
  have e1 : cA = dA 1 := by
    have h1 : s.vm.findClass ("[" ++ FieldType.long.toString) = some (dA 1) := (hK.2 1 _ rfl).2
    have h2 : s.vm.findClass ("[" ++ FieldType.long.toString) = some cA := (hK1.2 4 (cA, .long) rfl).2
    exact Option.some.inj (h2.symm.trans h1)
  subst e1
  exact g_grow (x := kJ N (fun _ => 0)) hC0 hk hcl trivial (fun _ _ => rfl) hlv hst kk hP1 hD1 hS1 hl
end
