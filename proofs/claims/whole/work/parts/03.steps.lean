section
variable {p : Program} {l : Launch} {e : Env} {R : Room} {s : State} {m : MethodId} {args : Array Value} {below : List Frame} {meth : Method} {c : Code} {D : va_G} {dA ad : Nat → Nat} {L : List Nat} {A : Nat → Prop} {nL cells slots : Nat} {Q : State → Prop} {hp : Nat → KE} {own : String} {cc : ByteArray} {ret : Option FieldType} {tb : List (Nat × Instr × Nat)}
theorem lk_ix {ad : Nat → Nat} {i : Nat} {v : Value} : ∀ {lv : List (Nat × Value)}, lk lv i = some v → ∃ j : Nat, (emL ad lv)[j]? = some (i, em ad v)
  | [], h => by simp [lk] at h
  | (j, w) :: r, h => by
    by_cases hb : Nat.beq j i = true
    · simp only [lk, hb] at h
      have hv : w = v := Option.some.inj h
      have hji : j = i := Nat.eq_of_beq_eq_true hb
      subst hji
      subst hv
      exact ⟨0, rfl⟩
    · have hb2 : Nat.beq j i = false := by cases hx : Nat.beq j i with
        | true => exact absurd hx hb
        | false => rfl
      simp only [lk, hb2] at h
      obtain ⟨j2, h2⟩ := lk_ix (lv := r) h
      exact ⟨j2 + 1, h2⟩
set_option maxHeartbeats 4000000 in
theorem g_st1 (hC : CX p s m args meth c own cc nL ret tb D dA ad L A) {pc nx : Nat} {i : Instr} {lv : List (Nat × Value)} {st : List Value} {r : kS} (hf : fd tb pc = some (i, nx)) (h : st1 nL i pc nx lv st = some r)
    (k : G p l e R s m args below meth c D dA ad L A nL cells slots Q hp r.1 r.2.1 r.2.2) : G p l e R s m args below meth c D dA ad L A nL cells slots Q hp pc lv st := by
  obtain ⟨⟨hx, hb, -, -, -⟩, -, -, ht, -⟩ := hC
  obtain ⟨n, hd, hnx, hn⟩ := fd_ok ht hf
  cases i
  case iconst z =>
    obtain rfl : n = 1 := hn.resolve_left (by simp [ilen])
    subst hnx
    simp only [st1] at h
    cases h
    exact fun H locs ls hP hS hl => lv_iconst hx hb hd (cI_eq _) (k H locs ls hP hS hl)
  case bipush z =>
    obtain rfl : n = 2 := hn.resolve_left (by simp [ilen])
    subst hnx
    simp only [st1, cst] at h
    split at h
    · rename_i hq _
      cases h
      exact fun H locs ls hP hS hl => lv_bipush hx hb hd hq (k H locs ls hP hS hl)
    · cases h
  case sipush z =>
    obtain rfl : n = 3 := hn.resolve_left (by simp [ilen])
    subst hnx
    simp only [st1, cst] at h
    split at h
    · rename_i hq _
      cases h
      exact fun H locs ls hP hS hl => lv_sipush hx hb hd hq (k H locs ls hP hS hl)
    · cases h
  case lconst z =>
    obtain rfl : n = 1 := hn.resolve_left (by simp [ilen])
    subst hnx
    simp only [st1] at h
    cases h
    exact fun H locs ls hP hS hl => lv_lconst hx hb hd rfl (k H locs ls hP hS hl)
  case iload_n z =>
    obtain rfl : n = 1 := hn.resolve_left (by simp [ilen])
    subst hnx
    simp only [st1, ldI] at h
    split at h
    · rename_i x hq
      cases h
      exact fun H locs ls hP hS hl => lv_iload_n hx hb hd rfl (lk_at hl hq) (k H locs ls hP hS hl)
    · cases h
  case iload z =>
    obtain rfl : n = 2 := hn.resolve_left (by simp [ilen])
    subst hnx
    simp only [st1, ldI] at h
    split at h
    · rename_i x hq
      cases h
      exact fun H locs ls hP hS hl => lv_iload hx hb hd (lk_at hl hq) (k H locs ls hP hS hl)
    · cases h
  case lload_n z =>
    obtain rfl : n = 1 := hn.resolve_left (by simp [ilen])
    subst hnx
    simp only [st1, ldJ] at h
    split at h
    · rename_i x hq
      cases h
      exact fun H locs ls hP hS hl => lv_lload_n hx hb hd rfl (lk_at hl hq) (k H locs ls hP hS hl)
    · cases h
  case lload z =>
    obtain rfl : n = 2 := hn.resolve_left (by simp [ilen])
    subst hnx
    simp only [st1, ldJ] at h
    split at h
    · rename_i x hq
      cases h
      exact fun H locs ls hP hS hl => lv_lload hx hb hd (lk_at hl hq) (k H locs ls hP hS hl)
    · cases h
  case aload_n z =>
    obtain rfl : n = 1 := hn.resolve_left (by simp [ilen])
    subst hnx
    simp only [st1, ldA] at h
    split at h
    · rename_i x hq
      cases h
      exact fun H locs ls hP hS hl => lv_aload_n hx hb hd rfl (lk_at hl hq) (k H locs ls hP hS hl)
    · cases h
  case aload z =>
    obtain rfl : n = 2 := hn.resolve_left (by simp [ilen])
    subst hnx
    simp only [st1, ldA] at h
    split at h
    · rename_i x hq
      cases h
      exact fun H locs ls hP hS hl => lv_aload hx hb hd (lk_at hl hq) (k H locs ls hP hS hl)
    · cases h
  case istore_n z =>
    obtain rfl : n = 1 := hn.resolve_left (by simp [ilen])
    subst hnx
    simp only [st1, stI] at h
    split at h
    · rename_i x r9
      split at h
      · rename_i hq
        cases h
        exact fun H locs ls hP hS hl => lv_istore_n hx hb hd rfl hl (Nat.le_of_ble_eq_true hq) (em_sv1 ad lv z (.int x)) (fun ls' hl' => k H locs ls' hP hS hl')
      · cases h
    · cases h
  case istore z =>
    obtain rfl : n = 2 := hn.resolve_left (by simp [ilen])
    subst hnx
    simp only [st1, stI] at h
    split at h
    · rename_i x r9
      split at h
      · rename_i hq
        cases h
        exact fun H locs ls hP hS hl => lv_istore hx hb hd hl (Nat.le_of_ble_eq_true hq) (em_sv1 ad lv z (.int x)) (fun ls' hl' => k H locs ls' hP hS hl')
      · cases h
    · cases h
  case lstore_n z =>
    obtain rfl : n = 1 := hn.resolve_left (by simp [ilen])
    subst hnx
    simp only [st1, stJ] at h
    split at h
    · rename_i x r9
      split at h
      · rename_i hq
        cases h
        exact fun H locs ls hP hS hl => lv_lstore_n hx hb hd rfl hl (Nat.le_of_ble_eq_true hq) (em_sv2 ad lv z (.long x)) (fun ls' hl' => k H locs ls' hP hS hl')
      · cases h
    · cases h
  case lstore z =>
    obtain rfl : n = 2 := hn.resolve_left (by simp [ilen])
    subst hnx
    simp only [st1, stJ] at h
    split at h
    · rename_i x r9
      split at h
      · rename_i hq
        cases h
        exact fun H locs ls hP hS hl => lv_lstore hx hb hd hl (Nat.le_of_ble_eq_true hq) (em_sv2 ad lv z (.long x)) (fun ls' hl' => k H locs ls' hP hS hl')
      · cases h
    · cases h
  case astore_n z =>
    obtain rfl : n = 1 := hn.resolve_left (by simp [ilen])
    subst hnx
    simp only [st1, stA] at h
    split at h
    · rename_i x r9
      split at h
      · rename_i hq
        cases h
        exact fun H locs ls hP hS hl => lv_astore_n hx hb hd rfl hl (Nat.le_of_ble_eq_true hq) (em_sv1 ad lv z (.ref x)) (fun ls' hl' => k H locs ls' hP hS hl')
      · cases h
    · cases h
  case astore z =>
    obtain rfl : n = 2 := hn.resolve_left (by simp [ilen])
    subst hnx
    simp only [st1, stA] at h
    split at h
    · rename_i x r9
      split at h
      · rename_i hq
        cases h
        exact fun H locs ls hP hS hl => lv_astore hx hb hd hl (Nat.le_of_ble_eq_true hq) (em_sv1 ad lv z (.ref x)) (fun ls' hl' => k H locs ls' hP hS hl')
      · cases h
    · cases h
  case iadd =>
    obtain rfl : n = 1 := hn.resolve_left (by simp [ilen])
    subst hnx
    simp only [st1, b2I] at h
    split at h
    · rename_i y x r9
      cases h
      exact fun H locs ls hP hS hl => lv_iadd hx hb hd (k H locs ls hP hS hl)
    · cases h
  case isub =>
    obtain rfl : n = 1 := hn.resolve_left (by simp [ilen])
    subst hnx
    simp only [st1, b2I] at h
    split at h
    · rename_i y x r9
      cases h
      exact fun H locs ls hP hS hl => lv_isub hx hb hd (k H locs ls hP hS hl)
    · cases h
  case imul =>
    obtain rfl : n = 1 := hn.resolve_left (by simp [ilen])
    subst hnx
    simp only [st1, b2I] at h
    split at h
    · rename_i y x r9
      cases h
      exact fun H locs ls hP hS hl => lv_imul hx hb hd (k H locs ls hP hS hl)
    · cases h
  case iand =>
    obtain rfl : n = 1 := hn.resolve_left (by simp [ilen])
    subst hnx
    simp only [st1, b2I] at h
    split at h
    · rename_i y x r9
      cases h
      exact fun H locs ls hP hS hl => lv_iand hx hb hd (k H locs ls hP hS hl)
    · cases h
  case ior =>
    obtain rfl : n = 1 := hn.resolve_left (by simp [ilen])
    subst hnx
    simp only [st1, b2I] at h
    split at h
    · rename_i y x r9
      cases h
      exact fun H locs ls hP hS hl => lv_ior hx hb hd (k H locs ls hP hS hl)
    · cases h
  case ixor =>
    obtain rfl : n = 1 := hn.resolve_left (by simp [ilen])
    subst hnx
    simp only [st1, b2I] at h
    split at h
    · rename_i y x r9
      cases h
      exact fun H locs ls hP hS hl => lv_ixor hx hb hd (k H locs ls hP hS hl)
    · cases h
  case ishl =>
    obtain rfl : n = 1 := hn.resolve_left (by simp [ilen])
    subst hnx
    simp only [st1, b2I] at h
    split at h
    · rename_i y x r9
      cases h
      exact fun H locs ls hP hS hl => lv_ishl hx hb hd (k H locs ls hP hS hl)
    · cases h
  case ishr =>
    obtain rfl : n = 1 := hn.resolve_left (by simp [ilen])
    subst hnx
    simp only [st1, b2I] at h
    split at h
    · rename_i y x r9
      cases h
      exact fun H locs ls hP hS hl => lv_ishr hx hb hd (k H locs ls hP hS hl)
    · cases h
  case iushr =>
    obtain rfl : n = 1 := hn.resolve_left (by simp [ilen])
    subst hnx
    simp only [st1, b2I] at h
    split at h
    · rename_i y x r9
      cases h
      exact fun H locs ls hP hS hl => lv_iushr hx hb hd rfl (k H locs ls hP hS hl)
    · cases h
  case ladd =>
    obtain rfl : n = 1 := hn.resolve_left (by simp [ilen])
    subst hnx
    simp only [st1, b2J] at h
    split at h
    · rename_i y x r9
      cases h
      exact fun H locs ls hP hS hl => lv_ladd hx hb hd (k H locs ls hP hS hl)
    · cases h
  case lsub =>
    obtain rfl : n = 1 := hn.resolve_left (by simp [ilen])
    subst hnx
    simp only [st1, b2J] at h
    split at h
    · rename_i y x r9
      cases h
      exact fun H locs ls hP hS hl => lv_lsub hx hb hd (k H locs ls hP hS hl)
    · cases h
  case lmul =>
    obtain rfl : n = 1 := hn.resolve_left (by simp [ilen])
    subst hnx
    simp only [st1, b2J] at h
    split at h
    · rename_i y x r9
      cases h
      exact fun H locs ls hP hS hl => lv_lmul hx hb hd (k H locs ls hP hS hl)
    · cases h
  case lcmp =>
    obtain rfl : n = 1 := hn.resolve_left (by simp [ilen])
    subst hnx
    simp only [st1, stC] at h
    split at h
    · cases h
      exact fun H locs ls hP hS hl => W.lcmp hx hb hd (k H locs ls hP hS hl)
    · cases h
  case i2l =>
    obtain rfl : n = 1 := hn.resolve_left (by simp [ilen])
    subst hnx
    simp only [st1, stL] at h
    split at h
    · cases h
      exact fun H locs ls hP hS hl => lv_i2l hx hb hd rfl (k H locs ls hP hS hl)
    · cases h
  case dup =>
    obtain rfl : n = 1 := hn.resolve_left (by simp [ilen])
    subst hnx
    simp only [st1, stD] at h
    split at h
    · cases h
      exact fun H locs ls hP hS hl => lv_dup hx hb hd rfl (k H locs ls hP hS hl)
    · cases h
      exact fun H locs ls hP hS hl => lv_dup hx hb hd rfl (k H locs ls hP hS hl)
    · cases h
  case dup2 =>
    obtain rfl : n = 1 := hn.resolve_left (by simp [ilen])
    subst hnx
    simp only [st1, stD2] at h
    split at h
    · cases h
      exact fun H locs ls hP hS hl => lv_dup2_11 hx hb hd rfl rfl (k H locs ls hP hS hl)
    · cases h
  case pop =>
    obtain rfl : n = 1 := hn.resolve_left (by simp [ilen])
    subst hnx
    simp only [st1, stP] at h
    split at h
    · cases h
      exact fun H locs ls hP hS hl => lv_pop hx hb hd rfl (k H locs ls hP hS hl)
    · cases h
      exact fun H locs ls hP hS hl => lv_pop hx hb hd rfl (k H locs ls hP hS hl)
    · cases h
  case pop2 =>
    obtain rfl : n = 1 := hn.resolve_left (by simp [ilen])
    subst hnx
    simp only [st1, stP2] at h
    split at h
    · cases h
      exact fun H locs ls hP hS hl => lv_pop2_2 hx hb hd rfl (k H locs ls hP hS hl)
    · cases h
  case iinc z w =>
    obtain rfl : n = 3 := hn.resolve_left (by simp [ilen])
    subst hnx
    simp only [st1, stN] at h
    split at h
    · rename_i x hq
      split at h
      · rename_i hq2
        cases h
        intro H locs ls hP hS hl
        obtain ⟨j, hj⟩ := lk_ix (ad := ad) hq
        exact lv_iinc hx hb hd hl hj (congrArg (fun z => x + z) (cI_eq w)) (Nat.le_of_ble_eq_true hq2) (em_sv1 ad lv z (.int (x + cI w))) (fun ls' hl' => k H locs ls' hP hS hl')
      · cases h
    · cases h
  case goto z =>
    obtain rfl : n = 3 := hn.resolve_left (by simp [ilen])
    subst hnx
    simp only [st1, stG] at h
    split at h
    · rename_i t hq
      cases h
      exact fun H locs ls hP hS hl => lv_goto hx hb hd hq (k H locs ls hP hS hl)
    · cases h
  all_goals (simp only [st1] at h; cases h)
/-- a run of plain instructions -/
def run (nL : Nat) (tb : List (Nat × Instr × Nat)) : Nat → Nat → List (Nat × Value) → List Value → Option kS
  | 0, pc, lv, st => some (pc, lv, st)
  | n + 1, pc, lv, st => match fd tb pc with
    | some (i, nx) => match st1 nL i pc nx lv st with
      | some (a, b, d) => run nL tb n a b d
      | none => none
    | none => none
theorem g_run (hC : CX p s m args meth c own cc nL ret tb D dA ad L A) : ∀ (n : Nat) {pc : Nat} {lv : List (Nat × Value)} {st : List Value} {pc' : Nat} {lv' : List (Nat × Value)} {st' : List Value}, run nL tb n pc lv st = some (pc', lv', st') →
    G p l e R s m args below meth c D dA ad L A nL cells slots Q hp pc' lv' st' → G p l e R s m args below meth c D dA ad L A nL cells slots Q hp pc lv st := by
  intro n
  induction n with
  | zero => intro pc lv st pc' lv' st' h k; simp only [run] at h; cases h; exact k
  | succ n ih =>
    intro pc lv st pc' lv' st' h k
    simp only [run] at h
    split at h
    · rename_i i nx hf
      split at h
      · rename_i a b d hy
        exact g_st1 hC hf hy (ih h k)
      · cases h
    · cases h
end
