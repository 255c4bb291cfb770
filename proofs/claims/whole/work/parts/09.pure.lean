def bI (b : Bool) : Int32 := match b with
  | true => nI 1
  | false => nI 0
theorem nar_b (b : Bool) : narrow .boolean (.int (bI b)) = .int (bI b) := by cases b <;> rfl
theorem len_of {n k : Nat} (h : Nat.ble n k = true) : n ≤ k := Nat.le_of_ble_eq_true h
theorem nI_s (i : Nat) : nI i + cI 1 = nI (i + 1) := nI_add i 1
theorem sI {x y : Int32} (h : x = y) : some (Value.int x) = some (Value.int y) := by rw [h]
theorem sJ {x y : Int64} (h : x = y) : some (Value.long x) = some (Value.long y) := by rw [h]
theorem sR {x y : Nat} (h : x = y) : some (Value.ref x) = some (Value.ref y) := by rw [h]
def lvOK (lv lv' : List (Nat × Value)) : Prop := match lv' with
  | [] => True
  | q :: r => lk lv q.1 = some q.2 ∧ lvOK lv r
theorem lk_mem {i : Nat} {v : Value} : ∀ {lv : List (Nat × Value)}, lk lv i = some v → (i, v) ∈ lv
  | [], h => by simp [lk] at h
  | (j, w) :: r, h => by
    by_cases hb : Nat.beq j i = true
    · simp only [lk, hb] at h
      have hv : w = v := Option.some.inj h
      have hji : j = i := Nat.eq_of_beq_eq_true hb
      subst hji
      subst hv
      exact List.mem_cons_self
    · have hb2 : Nat.beq j i = false := by cases hx : Nat.beq j i with
        | true => exact absurd hx hb
        | false => rfl
      simp only [lk, hb2] at h
      exact List.mem_cons_of_mem _ (lk_mem (lv := r) h)
theorem lvOK_mem : ∀ {lv lv' : List (Nat × Value)}, lvOK lv lv' → ∀ q ∈ lv', q ∈ lv
  | _, [], _, _, h => by cases h
  | lv, q0 :: r, h, q, hq => by
    rcases List.mem_cons.mp hq with rfl | hq
    · exact lk_mem h.1
    · exact lvOK_mem h.2 q hq
def KF (ad : Nat → Nat) (L : List Nat) : Prop := (kinj ad L ∧ L.Nodup) ∧ ∀ k, k < 66 → k ∈ L
section
variable {p : Program} {l : Launch} {e : Env} {R : Room} {s : State} {m : MethodId} {args : Array Value} {below : List Frame} {meth : Method} {c : Code} {D : va_G} {dA ad sa : Nat → Nat} {L : List Nat} {A : Nat → Prop} {nL cells slots : Nat} {Q : State → Prop} {hp : Nat → KE} {own : String} {cc : ByteArray} {ret : Option FieldType} {tb : List (Nat × Instr × Nat)}

theorem g_lvs {pc : Nat} {lv lv' : List (Nat × Value)} {st : List Value} (k : G p l e R s m args below meth c D dA ad L A nL cells slots Q hp pc lv' st) (h : lvOK lv lv') : G p l e R s m args below meth c D dA ad L A nL cells slots Q hp pc lv st := g_lv (lvOK_mem h) k
theorem g_top {pc : Nat} {lv : List (Nat × Value)} {st : List Value} {x : Int32} (y : Int32) (h : x = y) (k : G p l e R s m args below meth c D dA ad L A nL cells slots Q hp pc lv (.int y :: st)) : G p l e R s m args below meth c D dA ad L A nL cells slots Q hp pc lv (.int x :: st) := by rw [h]; exact k
theorem g_topl {pc : Nat} {lv : List (Nat × Value)} {st : List Value} {x : Int64} (y : Int64) (h : x = y) (k : G p l e R s m args below meth c D dA ad L A nL cells slots Q hp pc lv (.long y :: st)) : G p l e R s m args below meth c D dA ad L A nL cells slots Q hp pc lv (.long x :: st) := by rw [h]; exact k
theorem g_loop {pc : Nat} {lv : List (Nat × Value)} {st : List Value} (i0 N : Nat) (hpf : Nat → (Nat → KE)) (lvf : Nat → List (Nat × Value)) (hi : i0 ≤ N) (h0 : hp = hpf i0) (l0 : lvOK lv (lvf i0)) (step : ∀ i, i0 ≤ i → i < N → G p l e R s m args below meth c D dA ad L A nL cells slots Q (hpf (i + 1)) pc (lvf (i + 1)) st → G p l e R s m args below meth c D dA ad L A nL cells slots Q (hpf i) pc (lvf i) st) (exit : G p l e R s m args below meth c D dA ad L A nL cells slots Q (hpf N) pc (lvf N) st) : G p l e R s m args below meth c D dA ad L A nL cells slots Q hp pc lv st := by
  have key : ∀ n i, i0 ≤ i → i + n = N → G p l e R s m args below meth c D dA ad L A nL cells slots Q (hpf i) pc (lvf i) st := by
    intro n
    induction n with
    | zero => intro i h1 h2; have : i = N := by omega
              subst this; exact exit
    | succ n ih => intro i h1 h2; exact step i h1 (by omega) (ih (i + 1) (by omega) (by omega))
  subst h0
  exact g_lvs (key (N - i0) i0 (Nat.le_refl _) (by omega)) l0
/-- a loop whose counter falls -/
theorem g_loopD {pc : Nat} {lv : List (Nat × Value)} {st : List Value} (N : Nat) (hpf : Nat → (Nat → KE)) (lvf : Nat → List (Nat × Value)) (h0 : hp = hpf N) (l0 : lvOK lv (lvf N)) (step : ∀ i, i < N → G p l e R s m args below meth c D dA ad L A nL cells slots Q (hpf i) pc (lvf i) st → G p l e R s m args below meth c D dA ad L A nL cells slots Q (hpf (i + 1)) pc (lvf (i + 1)) st) (exit : G p l e R s m args below meth c D dA ad L A nL cells slots Q (hpf 0) pc (lvf 0) st) : G p l e R s m args below meth c D dA ad L A nL cells slots Q hp pc lv st := by
  have key : ∀ i, i ≤ N → G p l e R s m args below meth c D dA ad L A nL cells slots Q (hpf i) pc (lvf i) st := by
    intro i
    induction i with
    | zero => intro _; exact exit
    | succ i ih => intro h; exact step i (by omega) (ih (by omega))
  subst h0
  exact g_lvs (key N (Nat.le_refl _)) l0
theorem g_ldcw (hC : CX p s m args meth c own cc nL ret tb D dA ad L A) {pc nx idx : Nat} {v : Int32} {lv : List (Nat × Value)} {st : List Value} (hf : fd tb pc = some (.ldc_w idx, nx)) (hc : Cond.constant own idx v ∈ WW) (k : G p l e R s m args below meth c D dA ad L A nL cells slots Q hp nx lv (.int v :: st)) : G p l e R s m args below meth c D dA ad L A nL cells slots Q hp pc lv st := by
  obtain ⟨⟨hx, hb, hml, ho, hts⟩, -, -, htb, -⟩ := hC
  obtain ⟨n, hd, hnx, hn⟩ := fd_ok htb hf
  obtain rfl : n = 3 := hn.resolve_left (by simp [ilen])
  subst hnx
  exact fun H locs ls hP hS hl => lv_ldcw hx hb ho (hts _ hc) hd (k H locs ls hP hS hl)
theorem g_copyl (hC : CX p s m args meth c own cc nL ret tb D dA ad L A) {pc nx idx k0 k1 : Nat} {n0 : Nat} {f g : Nat → Int64} {lv : List (Nat × Value)} {st : List Value} (hf : fd tb pc = some (.invokestatic idx, nx)) (hlink : Cond.methodLink own idx arraycopyName ∈ WW) (hk0 : k0 ∈ L) (hk1 : k1 ∈ L) (hh0 : hp k0 = kJ n0 f) (hh1 : hp k1 = kJ n0 g) (hn0 : n0 < 2 ^ 31) {z : Int32} (hz : z = nI n0) {y1 y2 : Int32} (hy1 : y1 = nI 0) (hy2 : y2 = nI 0) (hfr : 1 ≤ R.frames) (hlo : (st.map fun v => v.category).sum + (nativeFrameWords "java/lang/System" "arraycopy" 5 + 11) ≤ R.locals)
    (kk : G p l e R s m args below meth c D dA ad L A nL cells slots Q (va_up hp k1 (kJ n0 (va_cpy f g 0 0 n0))) nx lv st) : G p l e R s m args below meth c D dA ad L A nL cells slots Q hp pc lv (.int z :: .int y1 :: .ref k1 :: .int y2 :: .ref k0 :: st) := by
  obtain ⟨⟨hx, hb, hml, ho, hts⟩, -, -, htb, hK, hj1, hnd, hA, -⟩ := hC
  obtain ⟨n9, hd, hnx, hn9⟩ := fd_ok htb hf
  obtain rfl : n9 = 3 := hn9.resolve_left (by simp [ilen])
  subst hnx
  subst hz hy1 hy2
  intro H locs ls hP hS hl
  obtain ⟨i0, hi0⟩ := kw_get (dA := dA) (ad := ad) (hp := hp) hk0
  obtain ⟨i1, hi1⟩ := kw_get (dA := dA) (ad := ad) (hp := hp) hk1
  have hi9 := hi1
  rw [hh0] at hi0
  rw [hh1] at hi1
  have c0 : (nI 0).toNatClampNeg = 0 := nI_clamp (by decide)
  have c1 : (nI n0).toNatClampNeg = n0 := nI_clamp hn0
  refine va_copyl hx hb (hml.trans hl.1.symm) ho (hts _ hlink) (hts _ nA_arraycopy) (hts _ yS_arraycopy) (hts _ iN_J10) hK hP (kw_D hj1 hnd hA) hS i0 i1 1 1 hi0 hi1 rfl rfl rfl (nI_pos (by decide)) (nI_pos (by decide)) (nI_pos hn0) (by rw [c0, c1]; omega) (by rw [c0, c1]; omega) (fun i _ => rfl) hfr (by rw [em_cats]; exact hlo) hd (fun H1 locs1 hP1 _ hS1 => ?_)
  rw [c0, c1] at hP1
  have e1 : ((.inl (dA 1, n0, .inr (.inl (va_cpy f g 0 0 n0)))) : va_E) = emE dA ad (kJ n0 (va_cpy f g 0 0 n0)) := rfl
  rw [e1, kw_set hj1 hnd hk1 hi9] at hP1
  exact kk H1 locs1 ls hP1 hS1 hl
end
/-! how many numbers of a row aren't 0 -/
def cntN (f : Nat → Int64) : Nat → Nat
  | 0 => 0
  | n + 1 => cntN f n + (if f n = 0 then 0 else 1)
def cnt (f : Nat → Int64) : Nat := cntN f 512
theorem cntN_le (f : Nat → Int64) : ∀ n, cntN f n ≤ n
  | 0 => Nat.le_refl _
  | n + 1 => by
    have := cntN_le f n
    simp only [cntN]
    split <;> omega
theorem cnt_le (f : Nat → Int64) : cnt f ≤ 512 := cntN_le f 512
theorem cntN_congr {f g : Nat → Int64} : ∀ {n : Nat}, (∀ i, i < n → f i = g i) → cntN f n = cntN g n
  | 0, _ => rfl
  | n + 1, h => by simp only [cntN]; rw [cntN_congr (n := n) (fun i hi => h i (by omega)), h n (by omega)]
theorem cntN_up {f : Nat → Int64} {k : Nat} {v : Int64} : ∀ {n : Nat}, k < n → cntN (va_up f k v) n + (if f k = 0 then 0 else 1) = cntN f n + (if v = 0 then 0 else 1)
  | 0, h => by omega
  | n + 1, h => by
    by_cases hk : k = n
    · subst hk
      simp only [cntN, va_up_self]
      rw [cntN_congr (f := va_up f k v) (g := f) (fun i hi => va_up_ne _ _ (by omega))]
      omega
    · have ih := cntN_up (f := f) (v := v) (n := n) (k := k) (by omega)
      simp only [cntN]
      rw [va_up_ne _ _ (Ne.symm hk)]
      omega
theorem cnt_up {f : Nat → Int64} {k : Nat} {v : Int64} (h : k < 512) : cnt (va_up f k v) + (if f k = 0 then 0 else 1) = cnt f + (if v = 0 then 0 else 1) := cntN_up h
theorem cnt_pos {f : Nat → Int64} {k : Nat} (h : k < 512) (hk : ¬ f k = 0) : 0 < cnt f := by
  have := cnt_up (f := f) (v := 0) h
  rw [if_neg hk, if_pos rfl] at this
  omega
theorem cntN_zero : ∀ n, cntN (fun _ => 0) n = 0
  | 0 => rfl
  | n + 1 => by simp only [cntN]; rw [cntN_zero n]; rfl
/-! polynomials and gates in the world -/
def PolyAt (hp : Nat → KE) (q : Nat) (row : Nat → Int64) : Prop := hp q = kO 1 [.ref (q + 1), .int (nI (cnt row))] ∧ hp (q + 1) = kJ 512 row
def setP (hp : Nat → KE) (q : Nat) (row : Nat → Int64) : Nat → KE := va_up (va_up hp (q + 1) (kJ 512 row)) q (kO 1 [.ref (q + 1), .int (nI (cnt row))])
theorem setP_at (hp : Nat → KE) (q : Nat) (row : Nat → Int64) : PolyAt (setP hp q row) q row := ⟨va_up_self _ _ _, by unfold setP; rw [va_up_ne _ _ (by omega), va_up_self]⟩
theorem setP_ne {hp : Nat → KE} {q k : Nat} {row : Nat → Int64} (h1 : k ≠ q) (h2 : k ≠ q + 1) : setP hp q row k = hp k := by unfold setP; rw [va_up_ne _ _ h1, va_up_ne _ _ h2]
theorem setP_setP {hp : Nat → KE} {q : Nat} {r1 r2 : Nat → Int64} : setP (setP hp q r1) q r2 = setP hp q r2 := by
  funext k
  by_cases h1 : k = q
  · subst h1; rw [(setP_at _ _ _).1, (setP_at _ _ _).1]
  · by_cases h2 : k = q + 1
    · subst h2; rw [(setP_at _ _ _).2, (setP_at _ _ _).2]
    · rw [setP_ne h1 h2, setP_ne h1 h2, setP_ne h1 h2]
theorem setP_self {hp : Nat → KE} {q : Nat} {row : Nat → Int64} (h : PolyAt hp q row) : setP hp q row = hp := by
  funext k
  by_cases h1 : k = q
  · subst h1; rw [(setP_at _ _ _).1, h.1]
  · by_cases h2 : k = q + 1
    · subst h2; rw [(setP_at _ _ _).2, h.2]
    · rw [setP_ne h1 h2]
theorem PolyAt.keep {hp : Nat → KE} {q q2 : Nat} {row r2 : Nat → Int64} (h : PolyAt hp q2 row) (h1 : q2 ≠ q) (h2 : q2 ≠ q + 1) (h3 : q2 + 1 ≠ q) : PolyAt (setP hp q r2) q2 row := ⟨(setP_ne h1 h2).trans h.1, (setP_ne h3 (by omega)).trans h.2⟩
def GateAt (hp : Nat → KE) (g : Nat) (kd a b c : Nat) (ts : Nat → Nat) (tn : Nat → Int64) : Prop := hp g = kO 0 [.int (nI kd), .int (nI a), .int (nI b), .int (nI c), .ref (g + 1), .ref (g + 2)] ∧ hp (g + 1) = kI 8 (fun t => nI (ts t)) ∧ hp (g + 2) = kJ 8 tn
theorem GateAt.keep {hp : Nat → KE} {g q : Nat} {kd a b c : Nat} {ts : Nat → Nat} {tn : Nat → Int64} {row : Nat → Int64} (h : GateAt hp g kd a b c ts tn) (h1 : g ≠ q) (h2 : g ≠ q + 1) (h3 : g + 1 ≠ q) (h4 : g + 2 ≠ q) (h5 : g + 1 ≠ q + 1): GateAt (setP hp q row) g kd a b c ts tn := ⟨(setP_ne h1 h2).trans h.1, (setP_ne h3 h5).trans h.2.1, (setP_ne h4 (by omega)).trans h.2.2⟩
