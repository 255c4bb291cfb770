section
variable {p : Program} {l : Launch} {e : Env} {R : Room} {s : State} {m : MethodId} {args : Array Value} {below : List Frame} {meth : Method} {c : Code} {D : va_G} {dA ad : Nat → Nat} {L : List Nat} {A : Nat → Prop} {nL cells slots : Nat} {Q : State → Prop} {hp : Nat → KE} {own : String} {cc : ByteArray} {ret : Option FieldType} {tb : List (Nat × Instr × Nat)}

theorem g_ifeq (hC : CX p s m args meth c own cc nL ret tb D dA ad L A) {pc nx tgt : Nat} {off : Int} {x : Int32} {lv : List (Nat × Value)} {st : List Value} (hf : fd tb pc = some (.ifCond .eq off, nx)) (ht : (pc : Int) + off = (tgt : Int))
    (kt : x = 0 → G p l e R s m args below meth c D dA ad L A nL cells slots Q hp tgt lv st) (kf : ¬ x = 0 → G p l e R s m args below meth c D dA ad L A nL cells slots Q hp nx lv st) : G p l e R s m args below meth c D dA ad L A nL cells slots Q hp pc lv (.int x :: st) := by
  obtain ⟨⟨hx, hb, -, -, -⟩, -, -, htb, -⟩ := hC
  obtain ⟨n, hd, hnx, hn⟩ := fd_ok htb hf
  obtain rfl : n = 3 := hn.resolve_left (by simp [ilen])
  subst hnx
  exact fun H locs ls hP hS hl => lv_if_eq hx hb hd ht (fun h => kt h H locs ls hP hS hl) (fun h => kf h H locs ls hP hS hl)
theorem g_ifne (hC : CX p s m args meth c own cc nL ret tb D dA ad L A) {pc nx tgt : Nat} {off : Int} {x : Int32} {lv : List (Nat × Value)} {st : List Value} (hf : fd tb pc = some (.ifCond .ne off, nx)) (ht : (pc : Int) + off = (tgt : Int))
    (kt : ¬ x = 0 → G p l e R s m args below meth c D dA ad L A nL cells slots Q hp tgt lv st) (kf : x = 0 → G p l e R s m args below meth c D dA ad L A nL cells slots Q hp nx lv st) : G p l e R s m args below meth c D dA ad L A nL cells slots Q hp pc lv (.int x :: st) := by
  obtain ⟨⟨hx, hb, -, -, -⟩, -, -, htb, -⟩ := hC
  obtain ⟨n, hd, hnx, hn⟩ := fd_ok htb hf
  obtain rfl : n = 3 := hn.resolve_left (by simp [ilen])
  subst hnx
  exact fun H locs ls hP hS hl => lv_if_ne hx hb hd ht (fun h => kt h H locs ls hP hS hl) (fun h => kf h H locs ls hP hS hl)
theorem g_iflt (hC : CX p s m args meth c own cc nL ret tb D dA ad L A) {pc nx tgt : Nat} {off : Int} {x : Int32} {lv : List (Nat × Value)} {st : List Value} (hf : fd tb pc = some (.ifCond .lt off, nx)) (ht : (pc : Int) + off = (tgt : Int))
    (kt : x < 0 → G p l e R s m args below meth c D dA ad L A nL cells slots Q hp tgt lv st) (kf : ¬ x < 0 → G p l e R s m args below meth c D dA ad L A nL cells slots Q hp nx lv st) : G p l e R s m args below meth c D dA ad L A nL cells slots Q hp pc lv (.int x :: st) := by
  obtain ⟨⟨hx, hb, -, -, -⟩, -, -, htb, -⟩ := hC
  obtain ⟨n, hd, hnx, hn⟩ := fd_ok htb hf
  obtain rfl : n = 3 := hn.resolve_left (by simp [ilen])
  subst hnx
  exact fun H locs ls hP hS hl => lv_if_lt hx hb hd ht (fun h => kt h H locs ls hP hS hl) (fun h => kf h H locs ls hP hS hl)
theorem g_ifge (hC : CX p s m args meth c own cc nL ret tb D dA ad L A) {pc nx tgt : Nat} {off : Int} {x : Int32} {lv : List (Nat × Value)} {st : List Value} (hf : fd tb pc = some (.ifCond .ge off, nx)) (ht : (pc : Int) + off = (tgt : Int))
    (kt : 0 ≤ x → G p l e R s m args below meth c D dA ad L A nL cells slots Q hp tgt lv st) (kf : ¬ 0 ≤ x → G p l e R s m args below meth c D dA ad L A nL cells slots Q hp nx lv st) : G p l e R s m args below meth c D dA ad L A nL cells slots Q hp pc lv (.int x :: st) := by
  obtain ⟨⟨hx, hb, -, -, -⟩, -, -, htb, -⟩ := hC
  obtain ⟨n, hd, hnx, hn⟩ := fd_ok htb hf
  obtain rfl : n = 3 := hn.resolve_left (by simp [ilen])
  subst hnx
  exact fun H locs ls hP hS hl => lv_if_ge hx hb hd ht (fun h => kt h H locs ls hP hS hl) (fun h => kf h H locs ls hP hS hl)
theorem g_ifgt (hC : CX p s m args meth c own cc nL ret tb D dA ad L A) {pc nx tgt : Nat} {off : Int} {x : Int32} {lv : List (Nat × Value)} {st : List Value} (hf : fd tb pc = some (.ifCond .gt off, nx)) (ht : (pc : Int) + off = (tgt : Int))
    (kt : 0 < x → G p l e R s m args below meth c D dA ad L A nL cells slots Q hp tgt lv st) (kf : ¬ 0 < x → G p l e R s m args below meth c D dA ad L A nL cells slots Q hp nx lv st) : G p l e R s m args below meth c D dA ad L A nL cells slots Q hp pc lv (.int x :: st) := by
  obtain ⟨⟨hx, hb, -, -, -⟩, -, -, htb, -⟩ := hC
  obtain ⟨n, hd, hnx, hn⟩ := fd_ok htb hf
  obtain rfl : n = 3 := hn.resolve_left (by simp [ilen])
  subst hnx
  exact fun H locs ls hP hS hl => lv_if_gt hx hb hd ht (fun h => kt h H locs ls hP hS hl) (fun h => kf h H locs ls hP hS hl)
theorem g_ifle (hC : CX p s m args meth c own cc nL ret tb D dA ad L A) {pc nx tgt : Nat} {off : Int} {x : Int32} {lv : List (Nat × Value)} {st : List Value} (hf : fd tb pc = some (.ifCond .le off, nx)) (ht : (pc : Int) + off = (tgt : Int))
    (kt : x ≤ 0 → G p l e R s m args below meth c D dA ad L A nL cells slots Q hp tgt lv st) (kf : ¬ x ≤ 0 → G p l e R s m args below meth c D dA ad L A nL cells slots Q hp nx lv st) : G p l e R s m args below meth c D dA ad L A nL cells slots Q hp pc lv (.int x :: st) := by
  obtain ⟨⟨hx, hb, -, -, -⟩, -, -, htb, -⟩ := hC
  obtain ⟨n, hd, hnx, hn⟩ := fd_ok htb hf
  obtain rfl : n = 3 := hn.resolve_left (by simp [ilen])
  subst hnx
  exact fun H locs ls hP hS hl => lv_if_le hx hb hd ht (fun h => kt h H locs ls hP hS hl) (fun h => kf h H locs ls hP hS hl)
theorem g_iceq (hC : CX p s m args meth c own cc nL ret tb D dA ad L A) {pc nx tgt : Nat} {off : Int} {x y : Int32} {lv : List (Nat × Value)} {st : List Value} (hf : fd tb pc = some (.if_icmp .eq off, nx)) (ht : (pc : Int) + off = (tgt : Int))
    (kt : x = y → G p l e R s m args below meth c D dA ad L A nL cells slots Q hp tgt lv st) (kf : ¬ x = y → G p l e R s m args below meth c D dA ad L A nL cells slots Q hp nx lv st) : G p l e R s m args below meth c D dA ad L A nL cells slots Q hp pc lv (.int y :: .int x :: st) := by
  obtain ⟨⟨hx, hb, -, -, -⟩, -, -, htb, -⟩ := hC
  obtain ⟨n, hd, hnx, hn⟩ := fd_ok htb hf
  obtain rfl : n = 3 := hn.resolve_left (by simp [ilen])
  subst hnx
  exact fun H locs ls hP hS hl => lv_icmp_eq hx hb hd ht (fun h => kt h H locs ls hP hS hl) (fun h => kf h H locs ls hP hS hl)
theorem g_icne (hC : CX p s m args meth c own cc nL ret tb D dA ad L A) {pc nx tgt : Nat} {off : Int} {x y : Int32} {lv : List (Nat × Value)} {st : List Value} (hf : fd tb pc = some (.if_icmp .ne off, nx)) (ht : (pc : Int) + off = (tgt : Int))
    (kt : ¬ x = y → G p l e R s m args below meth c D dA ad L A nL cells slots Q hp tgt lv st) (kf : x = y → G p l e R s m args below meth c D dA ad L A nL cells slots Q hp nx lv st) : G p l e R s m args below meth c D dA ad L A nL cells slots Q hp pc lv (.int y :: .int x :: st) := by
  obtain ⟨⟨hx, hb, -, -, -⟩, -, -, htb, -⟩ := hC
  obtain ⟨n, hd, hnx, hn⟩ := fd_ok htb hf
  obtain rfl : n = 3 := hn.resolve_left (by simp [ilen])
  subst hnx
  exact fun H locs ls hP hS hl => lv_icmp_ne hx hb hd ht (fun h => kt h H locs ls hP hS hl) (fun h => kf h H locs ls hP hS hl)
theorem g_iclt (hC : CX p s m args meth c own cc nL ret tb D dA ad L A) {pc nx tgt : Nat} {off : Int} {x y : Int32} {lv : List (Nat × Value)} {st : List Value} (hf : fd tb pc = some (.if_icmp .lt off, nx)) (ht : (pc : Int) + off = (tgt : Int))
    (kt : x < y → G p l e R s m args below meth c D dA ad L A nL cells slots Q hp tgt lv st) (kf : ¬ x < y → G p l e R s m args below meth c D dA ad L A nL cells slots Q hp nx lv st) : G p l e R s m args below meth c D dA ad L A nL cells slots Q hp pc lv (.int y :: .int x :: st) := by
  obtain ⟨⟨hx, hb, -, -, -⟩, -, -, htb, -⟩ := hC
  obtain ⟨n, hd, hnx, hn⟩ := fd_ok htb hf
  obtain rfl : n = 3 := hn.resolve_left (by simp [ilen])
  subst hnx
  exact fun H locs ls hP hS hl => lv_icmp_lt hx hb hd ht (fun h => kt h H locs ls hP hS hl) (fun h => kf h H locs ls hP hS hl)
theorem g_icge (hC : CX p s m args meth c own cc nL ret tb D dA ad L A) {pc nx tgt : Nat} {off : Int} {x y : Int32} {lv : List (Nat × Value)} {st : List Value} (hf : fd tb pc = some (.if_icmp .ge off, nx)) (ht : (pc : Int) + off = (tgt : Int))
    (kt : y ≤ x → G p l e R s m args below meth c D dA ad L A nL cells slots Q hp tgt lv st) (kf : ¬ y ≤ x → G p l e R s m args below meth c D dA ad L A nL cells slots Q hp nx lv st) : G p l e R s m args below meth c D dA ad L A nL cells slots Q hp pc lv (.int y :: .int x :: st) := by
  obtain ⟨⟨hx, hb, -, -, -⟩, -, -, htb, -⟩ := hC
  obtain ⟨n, hd, hnx, hn⟩ := fd_ok htb hf
  obtain rfl : n = 3 := hn.resolve_left (by simp [ilen])
  subst hnx
  exact fun H locs ls hP hS hl => lv_icmp_ge hx hb hd ht (fun h => kt h H locs ls hP hS hl) (fun h => kf h H locs ls hP hS hl)
theorem g_icgt (hC : CX p s m args meth c own cc nL ret tb D dA ad L A) {pc nx tgt : Nat} {off : Int} {x y : Int32} {lv : List (Nat × Value)} {st : List Value} (hf : fd tb pc = some (.if_icmp .gt off, nx)) (ht : (pc : Int) + off = (tgt : Int))
    (kt : y < x → G p l e R s m args below meth c D dA ad L A nL cells slots Q hp tgt lv st) (kf : ¬ y < x → G p l e R s m args below meth c D dA ad L A nL cells slots Q hp nx lv st) : G p l e R s m args below meth c D dA ad L A nL cells slots Q hp pc lv (.int y :: .int x :: st) := by
  obtain ⟨⟨hx, hb, -, -, -⟩, -, -, htb, -⟩ := hC
  obtain ⟨n, hd, hnx, hn⟩ := fd_ok htb hf
  obtain rfl : n = 3 := hn.resolve_left (by simp [ilen])
  subst hnx
  exact fun H locs ls hP hS hl => lv_icmp_gt hx hb hd ht (fun h => kt h H locs ls hP hS hl) (fun h => kf h H locs ls hP hS hl)
theorem g_icle (hC : CX p s m args meth c own cc nL ret tb D dA ad L A) {pc nx tgt : Nat} {off : Int} {x y : Int32} {lv : List (Nat × Value)} {st : List Value} (hf : fd tb pc = some (.if_icmp .le off, nx)) (ht : (pc : Int) + off = (tgt : Int))
    (kt : x ≤ y → G p l e R s m args below meth c D dA ad L A nL cells slots Q hp tgt lv st) (kf : ¬ x ≤ y → G p l e R s m args below meth c D dA ad L A nL cells slots Q hp nx lv st) : G p l e R s m args below meth c D dA ad L A nL cells slots Q hp pc lv (.int y :: .int x :: st) := by
  obtain ⟨⟨hx, hb, -, -, -⟩, -, -, htb, -⟩ := hC
  obtain ⟨n, hd, hnx, hn⟩ := fd_ok htb hf
  obtain rfl : n = 3 := hn.resolve_left (by simp [ilen])
  subst hnx
  exact fun H locs ls hP hS hl => lv_icmp_le hx hb hd ht (fun h => kt h H locs ls hP hS hl) (fun h => kf h H locs ls hP hS hl)
theorem g_cv {pc : Nat} {lv lv' : List (Nat × Value)} {st st' : List Value} (h1 : lv = lv') (h2 : st = st') (k : G p l e R s m args below meth c D dA ad L A nL cells slots Q hp pc lv' st') : G p l e R s m args below meth c D dA ad L A nL cells slots Q hp pc lv st := by rw [h1, h2]; exact k
theorem g_hp {pc : Nat} {hp' : Nat → KE} {lv : List (Nat × Value)} {st : List Value} (h : hp = hp') (k : G p l e R s m args below meth c D dA ad L A nL cells slots Q hp' pc lv st) : G p l e R s m args below meth c D dA ad L A nL cells slots Q hp pc lv st := by rw [h]; exact k
/-- fewer locals, in any order -/
theorem g_lv {pc : Nat} {lv lv' : List (Nat × Value)} {st : List Value} (h : ∀ q ∈ lv', q ∈ lv) (k : G p l e R s m args below meth c D dA ad L A nL cells slots Q hp pc lv' st) : G p l e R s m args below meth c D dA ad L A nL cells slots Q hp pc lv st := by
  intro H locs ls hP hS hl
  refine k H locs ls hP hS ⟨hl.1, hl.2.1, fun q hq => ?_⟩
  obtain ⟨q0, h0, rfl⟩ := List.mem_map.mp hq
  exact hl.2.2 _ (List.mem_map.mpr ⟨q0, h q0 h0, rfl⟩)
theorem g_widen {pc k n : Nat} {lv : List (Nat × Value)} {st : List Value} (h1 : cells ≤ k) (h2 : slots ≤ n) (kk : G p l e R s m args below meth c D dA ad L A nL k n Q hp pc lv st) : G p l e R s m args below meth c D dA ad L A nL cells slots Q hp pc lv st :=
  fun H locs ls hP hS hl => W.widen h1 h2 (kk H locs ls hP hS hl)
def fT (ci : Nat) : u_T := match ci with
  | 0 => TX0
  | 1 => TX1
  | 2 => TX2
  | _ => TX3
def fC (ci : Nat) : String := match ci with
  | 0 => RX0
  | 1 => RX1
  | 2 => RX2
  | _ => RX3
def fN (ci : Nat) : Nat := match ci with
  | 0 => 6
  | 1 => 2
  | 2 => 8
  | _ => 14
def ftY (ci : Nat) : Nat → FieldType := match ci with
  | 0 => tyX0
  | 1 => tyX1
  | 2 => tyX2
  | _ => tyX3
def FLD (own : String) (idx ci j : Nat) : Prop := (kcl[ci]? = some (fC ci, fT ci, fN ci) ∧ j < fN ci ∧ Cond.fieldLink own idx (fC ci) (fT ci j).2.1 (fT ci j).2.2.1 ∈ WW ∧ (fT ci j).1 = fC ci ∧ (∀ w ∈ u_ws (fC ci) (fT ci) (fN ci), w ∈ WW)) ∧
  (∀ k, k < fN ci → parseFieldDescriptor (fT ci k).2.2.1 = some (ftY ci k)) ∧ (∀ a, a < fN ci → ∀ b, b < fN ci → a ≠ b → (fT ci a).2.1 ≠ (fT ci b).2.1)
theorem g_get (hC : CX p s m args meth c own cc nL ret tb D dA ad L A) {pc nx idx ci j k : Nat} {fs : List Value} {v : Value} {lv : List (Nat × Value)} {st : List Value} (hf : fd tb pc = some (.getfield idx, nx)) (hF : FLD own idx ci j) (hk : k ∈ L) (hh : hp k = kO ci fs) (hv : fs[j]? = some v)
    (kk : G p l e R s m args below meth c D dA ad L A nL cells slots Q hp nx lv (v :: st)) : G p l e R s m args below meth c D dA ad L A nL cells slots Q hp pc lv (.ref k :: st) := by
  obtain ⟨⟨hx, hb, hml, ho, hts⟩, -, -, htb, hK, -⟩ := hC
  obtain ⟨n, hd, hnx, hn⟩ := fd_ok htb hf
  obtain rfl : n = 3 := hn.resolve_left (by simp [ilen])
  subst hnx
  obtain ⟨⟨h1, h2, h3, h4, h5⟩, -, -⟩ := hF
  intro H locs ls hP hS hl
  obtain ⟨i, hi⟩ := kw_get (dA := dA) (ad := ad) (hp := hp) hk
  rw [hh] at hi
  exact va_get (D := D) (C := fC ci) (T := fT ci) (N := fN ci) (ref := fC ci) hx hb hts h5 ho hK hP i hi h1 j h2 (hts _ h3) (fun x h => by rw [h4] at h; exact h) (v := em ad v) (by rw [List.getElem?_map, hv]; rfl) hd (kk H locs ls hP hS hl)
theorem g_put (hC : CX p s m args meth c own cc nL ret tb D dA ad L A) {pc nx idx ci j k : Nat} {fs : List Value} {v : Value} {lv : List (Nat × Value)} {st : List Value} (hf : fd tb pc = some (.putfield idx, nx)) (hF : FLD own idx ci j) (hk : k ∈ L) (hh : hp k = kO ci fs) (hj : j < fs.length) (hfin : (fT ci j).2.2.2 = false)
    (hn2 : narrow (ftY ci j) (em ad v) = em ad v) (hfit : fits (ftY ci j) (em ad v) = true)
    (kk : G p l e R s m args below meth c D dA ad L A nL cells slots Q (va_up hp k (kO ci (fs.set j v))) nx lv st) : G p l e R s m args below meth c D dA ad L A nL cells slots Q hp pc lv (v :: .ref k :: st) := by
  obtain ⟨⟨hx, hb, hml, ho, hts⟩, -, -, htb, hK, hj1, hnd, hA, -⟩ := hC
  obtain ⟨n, hd, hnx, hn⟩ := fd_ok htb hf
  obtain rfl : n = 3 := hn.resolve_left (by simp [ilen])
  subst hnx
  obtain ⟨⟨h1, h2, h3, h4, h5⟩, h6, h7⟩ := hF
  intro H locs ls hP hS hl
  obtain ⟨i, hi⟩ := kw_get (dA := dA) (ad := ad) (hp := hp) hk
  have hi0 := hi
  rw [hh] at hi
  refine va_put (D := D) (C := fC ci) (T := fT ci) (N := fN ci) (ref := fC ci) hx hb hts h5 (ftY ci) h6 h7 ho hK hP (kw_D hj1 hnd hA) hS i hi h1 j h2 (hts _ h3) (fun x h => by rw [h4] at h; exact h) hfin (h6 j h2) hn2 hfit (by rw [List.length_map]; exact hj) hd (fun H1 locs1 hP1 _ hS1 => ?_)
  have e1 : ((.inr (ci, (fs.map (em ad)).set j (em ad v))) : va_E) = emE dA ad (kO ci (fs.set j v)) := by
    show _ = (.inr (ci, (fs.set j v).map (em ad)) : va_E)
    rw [List.map_set]
  rw [e1, kw_set hj1 hnd hk hi0] at hP1
  exact kk H1 locs1 ls hP1 hS1 hl
theorem g_putI (hC : CX p s m args meth c own cc nL ret tb D dA ad L A) {pc nx idx ci j k : Nat} {fs : List Value} {x : Int32} {lv : List (Nat × Value)} {st : List Value} (hf : fd tb pc = some (.putfield idx, nx)) (hF : FLD own idx ci j) (hk : k ∈ L) (hh : hp k = kO ci fs) (hj : j < fs.length) (hfin : (fT ci j).2.2.2 = false) (hty : ftY ci j = .int)
    (kk : G p l e R s m args below meth c D dA ad L A nL cells slots Q (va_up hp k (kO ci (fs.set j (.int x)))) nx lv st) : G p l e R s m args below meth c D dA ad L A nL cells slots Q hp pc lv (.int x :: .ref k :: st) :=
  g_put hC hf hF hk hh hj hfin (by rw [hty]; rfl) (by rw [hty]; rfl) kk
theorem g_ild (hC : CX p s m args meth c own cc nL ret tb D dA ad L A) {pc nx k n : Nat} {f : Nat → Int32} {i : Int32} {lv : List (Nat × Value)} {st : List Value} (j : Nat) (hf : fd tb pc = some (.iaload, nx)) (hk : k ∈ L) (hh : hp k = kI n f) (hi : i = nI j) (hj : j < n) (hn : n < 2 ^ 31)
    (kk : G p l e R s m args below meth c D dA ad L A nL cells slots Q hp nx lv (.int (f j) :: st)) : G p l e R s m args below meth c D dA ad L A nL cells slots Q hp pc lv (.int i :: .ref k :: st) := by
  obtain ⟨⟨hx, hb, hml, ho, hts⟩, -, -, htb, hK, -⟩ := hC
  obtain ⟨n9, hd, hnx, hn9⟩ := fd_ok htb hf
  obtain rfl : n9 = 1 := hn9.resolve_left (by simp [ilen])
  subst hnx
  subst hi
  intro H locs ls hP hS hl
  obtain ⟨i, hi⟩ := kw_get (dA := dA) (ad := ad) (hp := hp) hk
  rw [hh] at hi
  refine va_iald hx hb hK hP i 0 hi rfl (vp_in_nI hj hn) hd ?_
  rw [nI_clamp (Nat.lt_trans hj hn)]
  exact kk H locs ls hP hS hl
theorem g_lld (hC : CX p s m args meth c own cc nL ret tb D dA ad L A) {pc nx k n : Nat} {f : Nat → Int64} {i : Int32} {lv : List (Nat × Value)} {st : List Value} (j : Nat) (hf : fd tb pc = some (.laload, nx)) (hk : k ∈ L) (hh : hp k = kJ n f) (hi : i = nI j) (hj : j < n) (hn : n < 2 ^ 31)
    (kk : G p l e R s m args below meth c D dA ad L A nL cells slots Q hp nx lv (.long (f j) :: st)) : G p l e R s m args below meth c D dA ad L A nL cells slots Q hp pc lv (.int i :: .ref k :: st) := by
  obtain ⟨⟨hx, hb, hml, ho, hts⟩, -, -, htb, hK, -⟩ := hC
  obtain ⟨n9, hd, hnx, hn9⟩ := fd_ok htb hf
  obtain rfl : n9 = 1 := hn9.resolve_left (by simp [ilen])
  subst hnx
  subst hi
  intro H locs ls hP hS hl
  obtain ⟨i, hi⟩ := kw_get (dA := dA) (ad := ad) (hp := hp) hk
  rw [hh] at hi
  refine va_lald hx hb hK hP i 1 hi rfl (vp_in_nI hj hn) hd ?_
  rw [nI_clamp (Nat.lt_trans hj hn)]
  exact kk H locs ls hP hS hl
theorem g_ald (hC : CX p s m args meth c own cc nL ret tb D dA ad L A) {pc nx k n t q : Nat} {C : String} {f : Nat → Option Nat} {i : Int32} {lv : List (Nat × Value)} {st : List Value} (j : Nat) (hf : fd tb pc = some (.aaload, nx)) (hk : k ∈ L) (hh : hp k = kQ t n f) (ht : (tysW dA)[t]? = some (dA t, .object C)) (hi : i = nI j) (hj : j < n) (hn : n < 2 ^ 31) (hq : f j = some q)
    (kk : G p l e R s m args below meth c D dA ad L A nL cells slots Q hp nx lv (.ref q :: st)) : G p l e R s m args below meth c D dA ad L A nL cells slots Q hp pc lv (.int i :: .ref k :: st) := by
  obtain ⟨⟨hx, hb, hml, ho, hts⟩, -, -, htb, hK, -⟩ := hC
  obtain ⟨n9, hd, hnx, hn9⟩ := fd_ok htb hf
  obtain rfl : n9 = 1 := hn9.resolve_left (by simp [ilen])
  subst hnx
  subst hi
  intro H locs ls hP hS hl
  obtain ⟨i, hi⟩ := kw_get (dA := dA) (ad := ad) (hp := hp) hk
  rw [hh] at hi
  refine va_aldq hx hb hK hP i t (f := fun j => (f j).map ad) hi ht (vp_in_nI hj hn) hd ?_
  rw [nI_clamp (Nat.lt_trans hj hn)]
  rw [hq]
  exact kk H locs ls hP hS hl
theorem g_ist (hC : CX p s m args meth c own cc nL ret tb D dA ad L A) {pc nx k n : Nat} {f : Nat → Int32} {i x : Int32} {lv : List (Nat × Value)} {st : List Value} (j : Nat) (hf : fd tb pc = some (.iastore, nx)) (hk : k ∈ L) (hh : hp k = kI n f) (hi : i = nI j) (hj : j < n) (hn : n < 2 ^ 31)
    (kk : G p l e R s m args below meth c D dA ad L A nL cells slots Q (va_up hp k (kI n (va_up f j x))) nx lv st) : G p l e R s m args below meth c D dA ad L A nL cells slots Q hp pc lv (.int x :: .int i :: .ref k :: st) := by
  obtain ⟨⟨hx, hb, hml, ho, hts⟩, -, -, htb, hK, hj1, hnd, hA, -⟩ := hC
  obtain ⟨n9, hd, hnx, hn9⟩ := fd_ok htb hf
  obtain rfl : n9 = 1 := hn9.resolve_left (by simp [ilen])
  subst hnx
  subst hi
  intro H locs ls hP hS hl
  obtain ⟨i, hi⟩ := kw_get (dA := dA) (ad := ad) (hp := hp) hk
  have hi0 := hi
  rw [hh] at hi
  refine va_iast hx hb hK hP (kw_D hj1 hnd hA) hS i 0 hi rfl (vp_in_nI hj hn) hd (fun H1 locs1 hP1 _ hS1 => ?_)
  rw [nI_clamp (Nat.lt_trans hj hn)] at hP1
  have e1 : ((.inl (dA 0, n, .inl (upd f j x))) : va_E) = emE dA ad (kI n (va_up f j x)) := rfl
  rw [e1, kw_set hj1 hnd hk hi0] at hP1
  exact kk H1 locs1 ls hP1 hS1 hl
theorem g_lst (hC : CX p s m args meth c own cc nL ret tb D dA ad L A) {pc nx k n : Nat} {f : Nat → Int64} {i : Int32} {x : Int64} {lv : List (Nat × Value)} {st : List Value} (j : Nat) (hf : fd tb pc = some (.lastore, nx)) (hk : k ∈ L) (hh : hp k = kJ n f) (hi : i = nI j) (hj : j < n) (hn : n < 2 ^ 31)
    (kk : G p l e R s m args below meth c D dA ad L A nL cells slots Q (va_up hp k (kJ n (va_up f j x))) nx lv st) : G p l e R s m args below meth c D dA ad L A nL cells slots Q hp pc lv (.long x :: .int i :: .ref k :: st) := by
  obtain ⟨⟨hx, hb, hml, ho, hts⟩, -, -, htb, hK, hj1, hnd, hA, -⟩ := hC
  obtain ⟨n9, hd, hnx, hn9⟩ := fd_ok htb hf
  obtain rfl : n9 = 1 := hn9.resolve_left (by simp [ilen])
  subst hnx
  subst hi
  intro H locs ls hP hS hl
  obtain ⟨i, hi⟩ := kw_get (dA := dA) (ad := ad) (hp := hp) hk
  have hi0 := hi
  rw [hh] at hi
  refine va_last hx hb hK hP (kw_D hj1 hnd hA) hS i 1 hi rfl (vp_in_nI hj hn) hd (fun H1 locs1 hP1 _ hS1 => ?_)
  rw [nI_clamp (Nat.lt_trans hj hn)] at hP1
  have e1 : ((.inl (dA 1, n, .inr (.inl (vp_updL f j x)))) : va_E) = emE dA ad (kJ n (va_up f j x)) := rfl
  rw [e1, kw_set hj1 hnd hk hi0] at hP1
  exact kk H1 locs1 ls hP1 hS1 hl
theorem g_alen (hC : CX p s m args meth c own cc nL ret tb D dA ad L A) {pc nx k t : Nat} {a : vp_A} {ty : FieldType} {lv : List (Nat × Value)} {st : List Value} (hf : fd tb pc = some (.arraylength, nx)) (hk : k ∈ L) (hh : hp k = .inl (t, a)) (ht : (tysW dA)[t]? = some (dA t, ty))
    (kk : G p l e R s m args below meth c D dA ad L A nL cells slots Q hp nx lv (.int (nI a.1) :: st)) : G p l e R s m args below meth c D dA ad L A nL cells slots Q hp pc lv (.ref k :: st) := by
  obtain ⟨⟨hx, hb, hml, ho, hts⟩, -, -, htb, hK, -⟩ := hC
  obtain ⟨n9, hd, hnx, hn9⟩ := fd_ok htb hf
  obtain rfl : n9 = 1 := hn9.resolve_left (by simp [ilen])
  subst hnx
  intro H locs ls hP hS hl
  obtain ⟨i, hi⟩ := kw_get (dA := dA) (ad := ad) (hp := hp) hk
  rw [hh] at hi
  refine va_alen hx hb hK hP i t (x := emQ ad a) hi ht (v := nI a.1) ?_ hd (kk H locs ls hP hS hl)
  obtain ⟨n, f⟩ := a
  rcases f with f | f | f | f | f <;> rfl
/-- idiv, irem by what isn't 0 -/
theorem g_idiv (hC : CX p s m args meth c own cc nL ret tb D dA ad L A) {pc nx : Nat} {x y : Int32} {lv : List (Nat × Value)} {st : List Value} (hf : fd tb pc = some (.idiv, nx)) (hy : ¬ y = 0) (kk : G p l e R s m args below meth c D dA ad L A nL cells slots Q hp nx lv (.int (x / y) :: st)) : G p l e R s m args below meth c D dA ad L A nL cells slots Q hp pc lv (.int y :: .int x :: st) := by
  obtain ⟨⟨hx, hb, -, -, -⟩, -, -, htb, -⟩ := hC
  obtain ⟨n, hd, hnx, hn⟩ := fd_ok htb hf
  obtain rfl : n = 1 := hn.resolve_left (by simp [ilen])
  subst hnx
  exact fun H locs ls hP hS hl => lv_idiv hx hb hd hy (kk H locs ls hP hS hl)
theorem g_irem (hC : CX p s m args meth c own cc nL ret tb D dA ad L A) {pc nx : Nat} {x y : Int32} {lv : List (Nat × Value)} {st : List Value} (hf : fd tb pc = some (.irem, nx)) (hy : ¬ y = 0) (kk : G p l e R s m args below meth c D dA ad L A nL cells slots Q hp nx lv (.int (x - x / y * y) :: st)) : G p l e R s m args below meth c D dA ad L A nL cells slots Q hp pc lv (.int y :: .int x :: st) := by
  obtain ⟨⟨hx, hb, -, -, -⟩, -, -, htb, -⟩ := hC
  obtain ⟨n, hd, hnx, hn⟩ := fd_ok htb hf
  obtain rfl : n = 1 := hn.resolve_left (by simp [ilen])
  subst hnx
  exact fun H locs ls hP hS hl => lv_irem hx hb hd hy (kk H locs ls hP hS hl)
end
