/-! constructors -/
def nks (s : Nat) : Nat → List Nat
  | 0 => []
  | n + 1 => nks s n ++ [s + n]
theorem nks_mem {s k : Nat} : ∀ {n : Nat}, k ∈ nks s n → s ≤ k ∧ k < s + n
  | 0, h => by cases h
  | n + 1, h => by
    rcases List.mem_append.mp h with h | h
    · have := nks_mem h; omega
    · have := List.mem_singleton.mp h; omega
theorem nks_of {s k : Nat} : ∀ {n : Nat}, s ≤ k → k < s + n → k ∈ nks s n
  | 0, h1, h2 => by omega
  | n + 1, h1, h2 => by
    by_cases z : k = s + n
    · exact List.mem_append_right _ (List.mem_singleton.mpr z)
    · exact List.mem_append_left _ (nks_of h1 (by omega))
theorem nks_nd {s : Nat} : ∀ {n : Nat}, (nks s n).Nodup
  | 0 => List.nodup_nil
  | n + 1 => List.nodup_append.mpr ⟨nks_nd, List.nodup_cons.mpr ⟨List.not_mem_nil, List.nodup_nil⟩, fun a ha b hb z => by
      have h1 := nks_mem ha
      have h2 := List.mem_singleton.mp hb
      omega⟩
theorem nks1 (L : List Nat) (s n : Nat) : (L ++ nks s n) ++ [s + n] = L ++ nks s (n + 1) := by rw [List.append_assoc]; rfl
theorem nks2 (L : List Nat) (s n : Nat) : (L ++ nks s n) ++ [s + n, s + n + 1] = L ++ nks s (n + 2) := by
  show _ = L ++ ((nks s n ++ [s + n]) ++ [s + (n + 1)])
  simp [Nat.add_assoc]
theorem nks_app {L : List Nat} {s n : Nat} (hn : L.Nodup) (h : ∀ k ∈ L, k < s ∨ s + n ≤ k) : (L ++ nks s n).Nodup := List.nodup_append.mpr ⟨hn, nks_nd, fun a ha b hb z => by
  have h1 := nks_mem hb
  have h2 := h a ha
  omega⟩
theorem sv_nil {L : List Nat} : ∀ v ∈ ([] : List Value), rfV L v := fun _ h => by cases h
theorem sv_cons {L : List Nat} {v : Value} {st : List Value} (h : rfV L v) (h2 : ∀ w ∈ st, rfV L w) : ∀ w ∈ v :: st, rfV L w := fun w hw => by
  rcases List.mem_cons.mp hw with e | e
  · rw [e]; exact h
  · exact h2 w e
theorem lv_nil {L : List Nat} : ∀ q ∈ ([] : List (Nat × Value)), rfV L q.2 := fun _ h => by cases h
theorem lv_cons {L : List Nat} {i : Nat} {v : Value} {lv : List (Nat × Value)} (h : rfV L v) (h2 : ∀ w ∈ lv, rfV L w.2) : ∀ w ∈ (i, v) :: lv, rfV L w.2 := fun w hw => by
  rcases List.mem_cons.mp hw with e | e
  · rw [e]; exact h
  · exact h2 w e
theorem rv {L : List Nat} {k : Nat} (h : k ∈ L) : rfV L (.ref k) := fun j e => by cases e; exact h
theorem ri {L : List Nat} {x : Int32} : rfV L (.int x) := fun j e => by cases e
theorem rn {L : List Nat} : rfV L .null := fun j e => by cases e
theorem CLO.put {L : List Nat} {hp : Nat → KE} {ci j k : Nat} {fs : List Value} {v : Value} (h : CLO L hp) (hk : k ∈ L) (hh : hp k = kO ci fs) (hv : rfV L v) : CLO L (va_up hp k (kO ci (fs.set j v))) := by
  refine h.up (fun w hw => ?_)
  have h1 := h k hk
  rw [hh] at h1
  rcases List.mem_or_eq_of_mem_set hw with e | e
  · exact h1 w e
  · rw [e]; exact hv
theorem cnt0 : cnt (fun _ => 0) = 0 := cntN_zero 512
section
variable {p : Program} {l : Launch} {e : Env} {R : Room} {s : State} {m : MethodId} {args : Array Value} {below : List Frame} {meth : Method} {c : Code} {D : va_G} {dA ad sa : Nat → Nat} {L : List Nat} {A : Nat → Prop} {nL cells slots : Nat} {Q : State → Prop} {hp : Nat → KE} {own : String} {cc : ByteArray} {ret : Option FieldType} {tb : List (Nat × Instr × Nat)}
theorem g_putA (hC : CX p s m args meth c own cc nL ret tb D dA ad L A) {pc nx idx ci j k : Nat} {fs : List Value} {v : Value} {lv : List (Nat × Value)} {st : List Value} (hf : fd tb pc = some (.putfield idx, nx)) (hF : FLD own idx ci j) (hk : k ∈ L) (hh : hp k = kO ci fs) (hj : j < fs.length) (hfin : (fT ci j).2.2.2 = false ∨ ((fT ci j).2.2.2 = true ∧ (fT ci j).1 = own ∧ meth.name = "<init>"))
    (hn2 : narrow (ftY ci j) (em ad v) = em ad v) (hfit : fits (ftY ci j) (em ad v) = true)
    (kk : G p l e R s m args below meth c D dA ad L A nL cells slots Q (va_up hp k (kO ci (fs.set j v))) nx lv st) : G p l e R s m args below meth c D dA ad L A nL cells slots Q hp pc lv (v :: .ref k :: st) := by
  rcases hfin with h | ⟨h1, h2, h3⟩
  · exact g_put hC hf hF hk hh hj h hn2 hfit kk
  · exact g_putF hC h3 hf hF hk hh hj h1 h2 hn2 hfit kk
/-- newarray, putfield -/
theorem g_mkI (hC : CX p s m args meth c own cc nL ret tb D dA ad L A) {pc nx nx2 k q N idx ci j : Nat} {fs : List Value} (hf : fd tb pc = some (.newarray .int, nx)) (hf2 : fd tb nx = some (.putfield idx, nx2)) (hF : FLD own idx ci j) (hk : k ∈ L) (hh : hp k = kO ci fs) (hj : j < fs.length) (hfin : (fT ci j).2.2.2 = false ∨ ((fT ci j).2.2.2 = true ∧ (fT ci j).1 = own ∧ meth.name = "<init>"))
    (hty : ftY ci j = .array .int) (hN : N ≤ 100000) (hq : ¬ q ∈ L) (hcl : CLO L hp) {lv : List (Nat × Value)} {st : List Value} (hlv : ∀ w ∈ lv, rfV L w.2) (hst : ∀ v ∈ st, rfV L v) (hfc : cells + 1 ≤ R.cells ∧ slots + N ≤ R.slots)
    (kk : ∀ ad2 : Nat → Nat, (∀ i ∈ L, ad2 i = ad i) → CX p s m args meth c own cc nL ret tb D dA ad2 (L ++ [q]) A → CLO (L ++ [q]) (va_up (va_up hp q (kI N (fun _ => 0))) k (kO ci (fs.set j (.ref q)))) → G p l e R s m args below meth c D dA ad2 (L ++ [q]) A nL (cells + 1) (slots + N) Q (va_up (va_up hp q (kI N (fun _ => 0))) k (kO ci (fs.set j (.ref q)))) nx2 lv st) :
    G p l e R s m args below meth c D dA ad L A nL cells slots Q hp pc lv (.int (nI N) :: .ref k :: st) := by
  refine g_newaI hC hf hN hq hcl hlv (sv_cons (rv hk) hst) hfc (fun ad2 h1 hC2 hcl2 => ?_)
  have hk2 : k ∈ L ++ [q] := List.mem_append_left _ hk
  have hh2 : va_up hp q (kI N (fun _ => 0)) k = kO ci fs := (va_up_ne _ _ (fun z => hq (by rw [← z]; exact hk))).trans hh
  exact g_putA hC2 hf2 hF hk2 hh2 hj hfin (by rw [hty]; rfl) (by rw [hty]; rfl) (kk ad2 h1 hC2 (hcl2.put hk2 hh2 (rv (List.mem_append_right _ (List.mem_singleton.mpr rfl)))))
theorem g_mkJ (hC : CX p s m args meth c own cc nL ret tb D dA ad L A) {pc nx nx2 k q N idx ci j : Nat} {fs : List Value} (hf : fd tb pc = some (.newarray .long, nx)) (hf2 : fd tb nx = some (.putfield idx, nx2)) (hF : FLD own idx ci j) (hk : k ∈ L) (hh : hp k = kO ci fs) (hj : j < fs.length) (hfin : (fT ci j).2.2.2 = false ∨ ((fT ci j).2.2.2 = true ∧ (fT ci j).1 = own ∧ meth.name = "<init>"))
    (hty : ftY ci j = .array .long) (hN : N ≤ 100000) (hq : ¬ q ∈ L) (hcl : CLO L hp) {lv : List (Nat × Value)} {st : List Value} (hlv : ∀ w ∈ lv, rfV L w.2) (hst : ∀ v ∈ st, rfV L v) (hfc : cells + 1 ≤ R.cells ∧ slots + N ≤ R.slots)
    (kk : ∀ ad2 : Nat → Nat, (∀ i ∈ L, ad2 i = ad i) → CX p s m args meth c own cc nL ret tb D dA ad2 (L ++ [q]) A → CLO (L ++ [q]) (va_up (va_up hp q (kJ N (fun _ => 0))) k (kO ci (fs.set j (.ref q)))) → G p l e R s m args below meth c D dA ad2 (L ++ [q]) A nL (cells + 1) (slots + N) Q (va_up (va_up hp q (kJ N (fun _ => 0))) k (kO ci (fs.set j (.ref q)))) nx2 lv st) :
    G p l e R s m args below meth c D dA ad L A nL cells slots Q hp pc lv (.int (nI N) :: .ref k :: st) := by
  refine g_newaJ hC hf hN hq hcl hlv (sv_cons (rv hk) hst) hfc (fun ad2 h1 hC2 hcl2 => ?_)
  have hk2 : k ∈ L ++ [q] := List.mem_append_left _ hk
  have hh2 : va_up hp q (kJ N (fun _ => 0)) k = kO ci fs := (va_up_ne _ _ (fun z => hq (by rw [← z]; exact hk))).trans hh
  exact g_putA hC2 hf2 hF hk2 hh2 hj hfin (by rw [hty]; rfl) (by rw [hty]; rfl) (kk ad2 h1 hC2 (hcl2.put hk2 hh2 (rv (List.mem_append_right _ (List.mem_singleton.mpr rfl)))))
end
section
variable {l : Launch} {D : va_G} {dA ad sa : Nat → Nat} {L : List Nat} {hp : Nat → KE}
theorem c_X1_init {q : Nat} (hj : kinj ad L) (hn : L.Nodup) (hk : q ∈ L) (hq : ¬ q + 1 ∈ L) (hcl : CLO L hp) (hh : hp q = kO 1 [.null, .int 0]) : KC l yX1_init cX1_init 1 (rmK 1 1 512) D dA ad sa L [.ref q] hp [q + 1] (fun hp' => hp' = setP hp q (fun _ => 0)) := by
  refine KC.of rfl ok_X1_init (len_of rfl) hj hn rfl ?_
  intro p e s m args below meth c A hC hN hI
  refine g_run hC 1 rfl ?_
  refine g_obj hC rfl mL_X1_3 ⟨by decide, by decide⟩ ?_
  refine g_run hC 2 rfl ?_
  refine g_mkJ (N := 512) (q := q + 1) hC rfl rfl F_X1_9 hk hh (by decide) (Or.inr ⟨rfl, rfl, hI⟩) rfl (by decide) hq hcl (lv_cons (rv hk) lv_nil) sv_nil ⟨by decide, by decide⟩ (fun ad2 h1 hC2 hcl2 => ?_)
  refine gC_ret hC2 rfl rfl h1 hcl2 ?_ (by decide) (by decide)
  unfold setP
  rw [cnt0]
  rfl
theorem c_X0_init {g : Nat} (hj : kinj ad L) (hn : L.Nodup) (hk : g ∈ L) (hq : ¬ g + 1 ∈ L) (hq2 : ¬ g + 2 ∈ L) (hcl : CLO L hp) (hh : hp g = kO 0 [.int 0, .int 0, .int 0, .int 0, .null, .null]) : KC l yX0_init cX0_init 1 (rmK 1 2 16) D dA ad sa L [.ref g] hp [g + 1, g + 2] (fun hp' => GateAt hp' g 0 0 0 0 (fun _ => 0) (fun _ => 0) ∧ ∀ k, k ≠ g → k ≠ g + 1 → k ≠ g + 2 → hp' k = hp k) := by
  refine KC.of rfl ok_X0_init (len_of rfl) hj hn rfl ?_
  intro p e s m args below meth c A hC hN hI
  refine g_run hC 1 rfl ?_
  refine g_obj hC rfl mL_X0_3 ⟨by decide, by decide⟩ ?_
  refine g_run hC 2 rfl ?_
  refine g_mkI (N := 8) (q := g + 1) hC rfl rfl F_X0_11 hk hh (by decide) (Or.inr ⟨rfl, rfl, hI⟩) rfl (by decide) hq hcl (lv_cons (rv hk) lv_nil) sv_nil ⟨by decide, by decide⟩ (fun ad2 h1 hC2 hcl2 => ?_)
  have hk2 : g ∈ L ++ [g + 1] := List.mem_append_left _ hk
  refine g_run hC2 2 rfl ?_
  refine g_mkJ (N := 8) (q := g + 2) hC2 rfl rfl F_X0_15 hk2 (va_up_self _ _ _) (Nat.le_of_ble_eq_true rfl) (Or.inr ⟨rfl, rfl, hI⟩) rfl (by decide) (fun z => ?_) hcl2 (lv_cons (rv hk2) lv_nil) sv_nil ⟨by decide, by decide⟩ (fun ad3 h3 hC3 hcl3 => ?_)
  · rcases List.mem_append.mp z with z | z
    · exact hq2 z
    · exact absurd (List.mem_singleton.mp z) (by omega)
  refine gC_ret hC3 rfl (by simp) (fun j hj => (h3 j (List.mem_append_left _ hj)).trans (h1 j hj)) hcl3 ⟨⟨va_up_self _ _ _, ?_, ?_⟩, fun k k1 k2 k3 => ?_⟩ (by decide) (by decide)
  · rw [va_up_ne _ _ (by omega), va_up_ne _ _ (by omega), va_up_ne _ _ (by omega), va_up_self]; rfl
  · rw [va_up_ne _ _ (by omega), va_up_self]
  · rw [va_up_ne _ _ k1, va_up_ne _ _ k3, va_up_ne _ _ k1, va_up_ne _ _ k2]
end
