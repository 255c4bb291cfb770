/-! THE LAYER: a world is a list L of keys; the cell of key k lies at address ad k and holds hp k, whose references are keys; locals and stack hold keys too.
G is W over all heaps that hold the world; runs of plain instructions go in one row (g_run), by computing. -/
abbrev KE : Type := (Nat × vp_A) ⊕ (Nat × List Value)
def em (ad : Nat → Nat) (v : Value) : Value := match v with
  | .ref k => .ref (ad k)
  | w => w
def emQ (ad : Nat → Nat) (x : vp_A) : vp_A := match x with
  | (n, .inr (.inr (.inr (.inr f)))) => (n, .inr (.inr (.inr (.inr (fun j => (f j).map ad)))))
  | y => y
def emE (dA ad : Nat → Nat) (x : KE) : va_E := match x with
  | .inl (t, a) => .inl (dA t, emQ ad a)
  | .inr (ci, fs) => .inr (ci, fs.map (em ad))
abbrev kO (ci : Nat) (fs : List Value) : KE := .inr (ci, fs)
abbrev kI (n : Nat) (f : Nat → Int32) : KE := .inl (0, n, .inl f)
abbrev kJ (n : Nat) (f : Nat → Int64) : KE := .inl (1, n, .inr (.inl f))
abbrev kQ (t n : Nat) (f : Nat → Option Nat) : KE := .inl (t, n, .inr (.inr (.inr (.inr f))))
def kw (dA ad : Nat → Nat) (L : List Nat) (hp : Nat → KE) : va_W := L.map fun k => (ad k, emE dA ad (hp k))
def tysW (dA : Nat → Nat) : List (ClassId × FieldType) := [(dA 0, .int), (dA 1, .long), (dA 2, .object RX0), (dA 3, .object RX1)]
theorem em_cat (ad : Nat → Nat) (v : Value) : (em ad v).category = v.category := by cases v <;> rfl
theorem kw_get {dA ad : Nat → Nat} {L : List Nat} {hp : Nat → KE} {k : Nat} (h : k ∈ L) : ∃ i : Nat, (kw dA ad L hp)[i]? = some (ad k, emE dA ad (hp k)) := by
  obtain ⟨i, hi⟩ := List.getElem?_of_mem h
  exact ⟨i, by simp [kw, hi]⟩
theorem kw_at {dA ad : Nat → Nat} {L : List Nat} {hp : Nat → KE} {i : Nat} {x : Nat × va_E} (h : (kw dA ad L hp)[i]? = some x) : ∃ k, L[i]? = some k ∧ x = (ad k, emE dA ad (hp k)) := by
  simp only [kw, List.getElem?_map] at h
  cases hl : L[i]? with
  | none => rw [hl] at h; cases h
  | some k => rw [hl] at h; cases h; exact ⟨k, rfl, rfl⟩
def kinj (ad : Nat → Nat) (L : List Nat) : Prop := ∀ i ∈ L, ∀ j ∈ L, ad i = ad j → i = j
theorem nodup_at {L : List Nat} (hn : L.Nodup) {i j k : Nat} (hi : L[i]? = some k) (hj : L[j]? = some k) : i = j := by
  have h1 := (List.getElem?_eq_some_iff.mp hi)
  have h2 := (List.getElem?_eq_some_iff.mp hj)
  obtain ⟨a1, b1⟩ := h1
  obtain ⟨a2, b2⟩ := h2
  exact (List.getElem_inj hn).mp (b1.trans b2.symm)
theorem kw_set {dA ad : Nat → Nat} {L : List Nat} {hp : Nat → KE} {k i : Nat} {x : va_E} (hj : kinj ad L) (hn : L.Nodup) (h : k ∈ L) (hi : (kw dA ad L hp)[i]? = some (ad k, x)) (e : KE) : (kw dA ad L hp).set i (ad k, emE dA ad e) = kw dA ad L (va_up hp k e) := by
  obtain ⟨k1, h1, h2⟩ := kw_at hi
  have hk : k = k1 := hj k h k1 (List.mem_of_getElem? h1) (congrArg Prod.fst h2)
  subst hk
  have hlt : i < (kw dA ad L hp).length := (List.getElem?_eq_some_iff.mp hi).1
  apply List.ext_getElem?
  intro j
  by_cases hji : i = j
  · subst hji
    rw [List.getElem?_set_self hlt]
    simp [kw, h1, va_up_self]
  · rw [List.getElem?_set_ne hji]
    simp only [kw, List.getElem?_map]
    cases hl : L[j]? with
    | none => rfl
    | some k2 =>
      have hne : k2 ≠ k := fun z => hji (nodup_at hn (by rw [h1]) (by rw [hl, z]))
      show some (ad k2, emE dA ad (hp k2)) = some (ad k2, emE dA ad (va_up hp k e k2))
      rw [va_up_ne _ _ hne]
theorem kw_D {dA ad : Nat → Nat} {L : List Nat} {hp : Nat → KE} {A : Nat → Prop} (hj : kinj ad L) (hn : L.Nodup) (hA : ∀ k ∈ L, A (ad k)) : va_D A (kw dA ad L hp) := by
  refine ⟨fun i j p q hi hjj hpq => ?_, fun k q hk => ?_⟩
  · obtain ⟨k1, h1, rfl⟩ := kw_at hi
    obtain ⟨k2, h2, rfl⟩ := kw_at hjj
    have hk : k1 = k2 := hj _ (List.mem_of_getElem? h1) _ (List.mem_of_getElem? h2) hpq
    subst hk
    exact nodup_at hn h1 h2
  · obtain ⟨k1, h1, rfl⟩ := kw_at hk
    exact hA _ (List.mem_of_getElem? h1)
/-! a method's instructions as a table: place, instruction, next place -/
def ilen (i : Instr) : Nat := match i with
  | .iload _ => 2
  | .lload _ => 2
  | .aload _ => 2
  | .istore _ => 2
  | .lstore _ => 2
  | .astore _ => 2
  | .bipush _ => 2
  | .sipush _ => 3
  | .ldc _ => 2
  | .ldc_w _ => 3
  | .iinc _ _ => 3
  | .goto _ => 3
  | .ifCond _ _ => 3
  | .if_icmp _ _ => 3
  | .getfield _ => 3
  | .putfield _ => 3
  | .invokevirtual _ => 3
  | .invokestatic _ => 3
  | .invokespecial _ => 3
  | .new _ => 3
  | .newarray _ => 2
  | .anewarray _ => 3
  | .tableswitch _ _ _ _ => 0
  | _ => 1
def tbOK (cc : ByteArray) (tb : List (Nat × Instr × Nat)) : Bool := tb.all fun q => match decode cc q.1 with
  | .ok (i, n) => decide (i = q.2.1 ∧ q.1 + n = q.2.2 ∧ (ilen i = 0 ∨ n = ilen i))
  | _ => false
def fd (tb : List (Nat × Instr × Nat)) (pc : Nat) : Option (Instr × Nat) := match tb with
  | [] => none
  | (a, i, n) :: r => match Nat.beq a pc with
    | true => some (i, n)
    | false => fd r pc
theorem fd_ok {cc : ByteArray} : ∀ {tb : List (Nat × Instr × Nat)} {pc nx : Nat} {i : Instr}, tbOK cc tb = true → fd tb pc = some (i, nx) → ∃ n, decode cc pc = .ok (i, n) ∧ pc + n = nx ∧ (ilen i = 0 ∨ n = ilen i)
  | [], pc, nx, i, _, h => by simp [fd] at h
  | (a, j, n) :: r, pc, nx, i, ht, h => by
    simp only [tbOK, List.all_cons, Bool.and_eq_true] at ht
    by_cases hb : Nat.beq a pc = true
    · have hap : a = pc := Nat.eq_of_beq_eq_true hb
      simp only [fd, hb] at h
      cases h
      have h1 := ht.1
      subst hap
      cases hd : decode cc a with
      | error z => rw [hd] at h1; cases h1
      | ok z =>
        obtain ⟨j2, n2⟩ := z
        rw [hd] at h1
        have h2 := of_decide_eq_true h1
        obtain ⟨h3, h4⟩ := h2
        subst h3
        exact ⟨n2, rfl, h4⟩
    · have hb2 : Nat.beq a pc = false := by cases hx : Nat.beq a pc with
        | true => exact absurd hx hb
        | false => rfl
      simp only [fd, hb2] at h
      exact fd_ok (tb := r) ht.2 h
/-- the context of a method's body -/
def CX (p : Program) (s : State) (m : MethodId) (args : Array Value) (meth : Method) (c : Code) (own : String) (cc : ByteArray) (nL : Nat) (ret : Option FieldType) (tb : List (Nat × Instr × Nat)) (D : va_G) (dA ad : Nat → Nat) (L : List Nat) (A : Nat → Prop) : Prop :=
  CallFix p m c cc nL s args WW own ∧ meth.sig.returnType = ret ∧ meth.locks = false ∧ tbOK cc tb = true ∧ va_K D kcl (tysW dA) s ∧ kinj ad L ∧ L.Nodup ∧ (∀ k ∈ L, A (ad k)) ∧ (∀ q, s.heap.size ≤ q → A q)
abbrev emL (ad : Nat → Nat) (lv : List (Nat × Value)) : List (Nat × Value) := lv.map fun q => (q.1, em ad q.2)
def G (p : Program) (l : Launch) (e : Env) (R : Room) (s : State) (m : MethodId) (args : Array Value) (below : List Frame) (meth : Method) (c : Code) (D : va_G) (dA ad : Nat → Nat) (L : List Nat) (A : Nat → Prop) (nL cells slots : Nat) (Q : State → Prop) (hp : Nat → KE) (pc : Nat) (lv : List (Nat × Value)) (st : List Value) : Prop :=
  ∀ (H : Heap) (locs : List Loc) (ls : Array Slot), va_P D kcl (kw dA ad L hp) H → va_S A s.heap H locs → lv_has ls nL (emL ad lv) → W p l e R s m args below meth c H locs cells slots Q (F0 m pc ls (st.map (em ad)))
def lk (lv : List (Nat × Value)) (i : Nat) : Option Value := match lv with
  | [] => none
  | (j, v) :: r => match Nat.beq j i with
    | true => some v
    | false => lk r i
theorem lk_at {ad : Nat → Nat} {ls : Array Slot} {nL i : Nat} {v : Value} : ∀ {lv : List (Nat × Value)}, lv_has ls nL (emL ad lv) → lk lv i = some v → ls[i]? = some (.val (em ad v))
  | [], _, h => by simp [lk] at h
  | (j, w) :: r, hl, h => by
    by_cases hb : Nat.beq j i = true
    · simp only [lk, hb] at h
      have hv : w = v := Option.some.inj h
      have hji : j = i := Nat.eq_of_beq_eq_true hb
      subst hji
      subst hv
      exact hl.2.2 (j, em ad w) List.mem_cons_self
    · have hb2 : Nat.beq j i = false := by cases hx : Nat.beq j i with
        | true => exact absurd hx hb
        | false => rfl
      simp only [lk, hb2] at h
      exact lk_at (lv := r) ⟨hl.1, hl.2.1, fun q hq => hl.2.2 q (List.mem_cons_of_mem _ hq)⟩ h
def sv1 (lv : List (Nat × Value)) (i : Nat) (v : Value) : List (Nat × Value) := (i, v) :: lv.filter (fun q => !(Nat.beq q.1 i) && !(Nat.beq (q.1 + 1) i && Nat.beq q.2.category 2))
def sv2 (lv : List (Nat × Value)) (i : Nat) (v : Value) : List (Nat × Value) := (i, v) :: lv.filter (fun q => !(Nat.beq q.1 i) && (!(Nat.beq q.1 (i + 1)) && !(Nat.beq (q.1 + 1) i && Nat.beq q.2.category 2)))
theorem beq_nat (a b : Nat) : (a == b) = Nat.beq a b := by rw [Bool.eq_iff_iff, Nat.beq_eq, beq_iff_eq]
theorem em_sv1 (ad : Nat → Nat) (lv : List (Nat × Value)) (i : Nat) (v : Value) : (i, em ad v) :: (emL ad lv).filter (fun q => !(q.1 == i) && !(q.1 + 1 == i && q.2.category == 2)) = emL ad (sv1 lv i v) := by
  simp only [emL, sv1, List.map_cons, List.filter_map]
  congr 1
  congr 1
  apply List.filter_congr
  intro q _
  simp only [Function.comp, em_cat, beq_nat]
theorem em_sv2 (ad : Nat → Nat) (lv : List (Nat × Value)) (i : Nat) (v : Value) : (i, em ad v) :: (emL ad lv).filter (fun q => !(q.1 == i) && (!(q.1 == i + 1) && !(q.1 + 1 == i && q.2.category == 2))) = emL ad (sv2 lv i v) := by
  simp only [emL, sv2, List.map_cons, List.filter_map]
  congr 1
  congr 1
  apply List.filter_congr
  intro q _
  simp only [Function.comp, em_cat, beq_nat]
/-! one plain instruction -/
abbrev kS : Type := Nat × List (Nat × Value) × List Value
def cI (n : Int) : Int32 := match n with
  | .ofNat k => nI k
  | .negSucc k => Int32.ofInt (.negSucc k)
theorem cI_eq (n : Int) : Int32.ofInt n = cI n := by
  cases n with
  | ofNat k =>
    show Int32.ofInt ((k : Nat) : Int) = Int32.ofNat k
    first | exact Int32.ofInt_eq_ofNat | exact Int32.ofInt_natCast k | rfl | (simp [Int32.ofInt, Int32.ofNat]; done) | (apply Int32.toBitVec_inj.mp; simp; done)
  | negSucc k => rfl
def ldI (lv : List (Nat × Value)) (st : List Value) (nx i : Nat) : Option kS := match lk lv i with
  | some (.int x) => some (nx, lv, .int x :: st)
  | _ => none
def ldJ (lv : List (Nat × Value)) (st : List Value) (nx i : Nat) : Option kS := match lk lv i with
  | some (.long x) => some (nx, lv, .long x :: st)
  | _ => none
def ldA (lv : List (Nat × Value)) (st : List Value) (nx i : Nat) : Option kS := match lk lv i with
  | some (.ref x) => some (nx, lv, .ref x :: st)
  | _ => none
def stI (nL : Nat) (lv : List (Nat × Value)) (st : List Value) (nx i : Nat) : Option kS := match st with
  | .int x :: r => match Nat.ble (i + 1) nL with
    | true => some (nx, sv1 lv i (.int x), r)
    | false => none
  | _ => none
def stJ (nL : Nat) (lv : List (Nat × Value)) (st : List Value) (nx i : Nat) : Option kS := match st with
  | .long x :: r => match Nat.ble (i + 2) nL with
    | true => some (nx, sv2 lv i (.long x), r)
    | false => none
  | _ => none
def stA (nL : Nat) (lv : List (Nat × Value)) (st : List Value) (nx i : Nat) : Option kS := match st with
  | .ref x :: r => match Nat.ble (i + 1) nL with
    | true => some (nx, sv1 lv i (.ref x), r)
    | false => none
  | _ => none
def b2I (f : Int32 → Int32 → Int32) (lv : List (Nat × Value)) (st : List Value) (nx : Nat) : Option kS := match st with
  | .int y :: .int x :: r => some (nx, lv, .int (f x y) :: r)
  | _ => none
def b2J (f : Int64 → Int64 → Int64) (lv : List (Nat × Value)) (st : List Value) (nx : Nat) : Option kS := match st with
  | .long y :: .long x :: r => some (nx, lv, .long (f x y) :: r)
  | _ => none
def stC (lv : List (Nat × Value)) (st : List Value) (nx : Nat) : Option kS := match st with
  | .long y :: .long x :: r => some (nx, lv, .int (lg_cmp x y) :: r)
  | _ => none
def stL (lv : List (Nat × Value)) (st : List Value) (nx : Nat) : Option kS := match st with
  | .int x :: r => some (nx, lv, .long x.toInt64 :: r)
  | _ => none
def stD (lv : List (Nat × Value)) (st : List Value) (nx : Nat) : Option kS := match st with
  | .int x :: r => some (nx, lv, .int x :: .int x :: r)
  | .ref x :: r => some (nx, lv, .ref x :: .ref x :: r)
  | _ => none
def stD2 (lv : List (Nat × Value)) (st : List Value) (nx : Nat) : Option kS := match st with
  | .int x :: .ref y :: r => some (nx, lv, .int x :: .ref y :: .int x :: .ref y :: r)
  | _ => none
def stP (lv : List (Nat × Value)) (st : List Value) (nx : Nat) : Option kS := match st with
  | .int _ :: r => some (nx, lv, r)
  | .ref _ :: r => some (nx, lv, r)
  | _ => none
def stP2 (lv : List (Nat × Value)) (st : List Value) (nx : Nat) : Option kS := match st with
  | .long _ :: r => some (nx, lv, r)
  | _ => none
def stN (nL : Nat) (lv : List (Nat × Value)) (st : List Value) (nx i : Nat) (n : Int) : Option kS := match lk lv i with
  | some (.int x) => match Nat.ble (i + 1) nL with
    | true => some (nx, sv1 lv i (.int (x + cI n)), st)
    | false => none
  | _ => none
def stG (pc : Nat) (off : Int) (lv : List (Nat × Value)) (st : List Value) : Option kS := match (pc : Int) + off with
  | .ofNat t => some (t, lv, st)
  | .negSucc _ => none
def cst (x y : Int32) (lv : List (Nat × Value)) (st : List Value) (nx : Nat) : Option kS := match decEq x y with
  | isTrue _ => some (nx, lv, .int y :: st)
  | isFalse _ => none
def st1 (nL : Nat) (i : Instr) (pc nx : Nat) (lv : List (Nat × Value)) (st : List Value) : Option kS := match i with
  | .iconst n => some (nx, lv, .int (cI n) :: st)
  | .bipush n => cst (Int8.ofInt n).toInt32 (cI n) lv st nx
  | .sipush n => cst (Int16.ofInt n).toInt32 (cI n) lv st nx
  | .lconst n => some (nx, lv, .long (Int64.ofNat (n : Nat)) :: st)
  | .iload_n k => ldI lv st nx k
  | .iload k => ldI lv st nx k
  | .lload_n k => ldJ lv st nx k
  | .lload k => ldJ lv st nx k
  | .aload_n k => ldA lv st nx k
  | .aload k => ldA lv st nx k
  | .istore_n k => stI nL lv st nx k
  | .istore k => stI nL lv st nx k
  | .lstore_n k => stJ nL lv st nx k
  | .lstore k => stJ nL lv st nx k
  | .astore_n k => stA nL lv st nx k
  | .astore k => stA nL lv st nx k
  | .iinc k n => stN nL lv st nx k n
  | .iadd => b2I (fun x y => x + y) lv st nx
  | .isub => b2I (fun x y => x - y) lv st nx
  | .imul => b2I (fun x y => x * y) lv st nx
  | .iand => b2I (fun x y => x &&& y) lv st nx
  | .ior => b2I (fun x y => x ||| y) lv st nx
  | .ixor => b2I (fun x y => x ^^^ y) lv st nx
  | .ishl => b2I (fun x y => x <<< (y &&& 31)) lv st nx
  | .ishr => b2I (fun x y => x >>> (y &&& 31)) lv st nx
  | .iushr => b2I (fun x y => (x.toUInt32 >>> (y.toUInt32 &&& Int32.toUInt32 31)).toInt32) lv st nx
  | .ladd => b2J (fun x y => x + y) lv st nx
  | .lsub => b2J (fun x y => x - y) lv st nx
  | .lmul => b2J (fun x y => x * y) lv st nx
  | .lcmp => stC lv st nx
  | .i2l => stL lv st nx
  | .dup => stD lv st nx
  | .dup2 => stD2 lv st nx
  | .pop => stP lv st nx
  | .pop2 => stP2 lv st nx
  | .goto off => stG pc off lv st
  | _ => none
