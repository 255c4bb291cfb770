def R_law : String := "GatePolynomialsLaw"
def lw_P (b : Addr) (xs : List Int32) (args : Array Value) (s : State) : Prop := args = #[.ref b] ∧ s.IntsAt b xs ∧ xs.length ≤ 2560 ∧ (Jvm.Cond.and given_1 narrow_1).before args s = true
def lw_Q (_ : Array Value) (s : State) (o : Outcome) (t : State) : Prop := o = .returned (some (.int 1)) ∧ Framed s o t [] 603072 7182442
def lw_Z (below : List Frame) (a : Array Value) (s : State) : State → Prop := fun t => ∃ o, t.status = .running ∧ Ended t below o ∧ lw_Q a s o t
/-- the law's own end, with 1 on the stack, nothing written that was there before, its room as the claim has it -/
theorem lw_ret {p : Program} {l : Launch} {e : Env} {s : State} {m : MethodId} {below : List Frame} {meth : Method} {c : Code} {b : Nat} (hx : p.tables.exec = Jvm.exec) (hb : c.code = code) (hr : meth.sig.returnType = ret) (hlocks : meth.locks = false) {pc : Nat} {H : Heap} {ls : Array Slot} (hdg : decode code pc = .ok (.ireturn, 1)) : W p l e room_1 s m #[Value.ref b] below meth c H [] 603072 7182442 (lw_Z below #[Value.ref b] s) (F0 m pc ls [.int 1]) := by
  intro T hT X
  obtain ⟨fs, hret, hrun, hended, hW, hframe⟩ := X.leave (v := some (.int 1)) (hlocks := hlocks) (fun h => by rw [hr] at h; cases h)
  have hmeth' : T.vm.method? m = some meth := X.method'
  refine ⟨T.setFrames fs, ?_, .returned (some (.int 1)), hrun, hended, rfl, ⟨_, rfl⟩, hW, hframe⟩
  jvm_step X.here [X.here.top, hx, hb, hdg, hmeth', hr, ret, narrow_b1]
  (try refine ⟨rfl, ?_⟩); (try refine ⟨rfl, ?_⟩)
  first | (intro acts; rw [hret _ acts rfl rfl rfl]) | rw [hret _ _ rfl rfl rfl]
  exact Steps.refl _
/-- what holds at the law's entry: the machine, the code, the tables' words (any of lw_tbl by 'hts w (by decide +kernel)'), the script of L ints xs at the cell b, what the Statement gives of the start (any of its parts by flat_of_before) -/
def lw_At (p : Program) (s : State) (m : MethodId) (meth : Method) (c : Code) (b L : Nat) (xs : Nat → Int32) : Prop :=
  p.tables.exec = Jvm.exec ∧ c.code = code ∧ meth.sig.returnType = ret ∧ c.maxLocals = 8 ∧ s.vm.findClass R_law = some m.cls ∧ (∀ w ∈ lw_tbl, w.before #[Value.ref b] s = true) ∧ va_X b L xs s s.heap ∧ b < s.heap.size ∧ meth.locks = false ∧ (Jvm.Cond.and given_1 narrow_1).before #[Value.ref b] s = true
theorem lw_K {s : State} {args : Array Value} (hts : ∀ w ∈ lw_tbl, w.before args s = true) : ∃ (D : va_G) (dA : Nat → Nat), va_K D kcl (tysW dA) s := by
  have hW : ∀ w ∈ WW, w.before args s = true := fun w h => hts w (WW_tbl h)
  obtain ⟨c0, i0, k0⟩ := u_known (n := 6) hW uw_0 (hW _ iT_X0)
  obtain ⟨c1, i1, k1⟩ := u_known (n := 2) hW uw_1 (hW _ iT_X1)
  obtain ⟨c2, i2, k2⟩ := u_known (n := 8) hW uw_2 (hW _ iT_X2)
  obtain ⟨c3, i3, k3⟩ := u_known (n := 14) hW uw_3 (hW _ iT_X3)
  obtain ⟨a0, ka0, p0, f0, g0, q0⟩ := Cond.arrayClass_spec (hW _ aC_int)
  obtain ⟨a1, ka1, p1, f1, g1, q1⟩ := Cond.arrayClass_spec (hW _ aC_long)
  obtain ⟨m2, a2, ka2, e1, -, e3, e4, e5⟩ := Cond.arrayOver_spec (hts _ (List.mem_filter.mp aO_0).1)
  obtain ⟨m3, a3, ka3, d1, -, d3, d4, d5⟩ := Cond.arrayOver_spec (hts _ (List.mem_filter.mp aO_1).1)
  refine ⟨(fun j => match j with
    | 0 => c0
    | 1 => c1
    | 2 => c2
    | _ => c3, fun j => match j with
    | 0 => i0
    | 1 => i1
    | 2 => i2
    | _ => i3), fun j => match j with
    | 0 => a0
    | 1 => a1
    | 2 => a2
    | _ => a3, fun c q h => ?_, fun k q h => ?_⟩
  · match c, h with
    | 0, h => cases h; exact k0
    | 1, h => cases h; exact k1
    | 2, h => cases h; exact k2
    | 3, h => cases h; exact k3
    | n + 4, h => cases h
  · match k, h with
    | 0, h => cases h; exact ⟨fun n z => ⟨fun k h => (by cases h), ka0, g0, p0, q0⟩, f0⟩
    | 1, h => cases h; exact ⟨fun n z => ⟨fun k h => (by cases h), ka1, g1, p1, q1⟩, f1⟩
    | 2, h => cases h; exact ⟨fun n z => ⟨fun k h => (by cases h), ka2, e3, m2, e4⟩, ka2, m2, e3, e4, e1, e5⟩
    | 3, h => cases h; exact ⟨fun n z => ⟨fun k h => (by cases h), ka3, d3, m3, d4⟩, ka3, m3, d3, d4, d1, d5⟩
    | n + 4, h => cases h
theorem lw_nests : ∀ q ∈ nests, Cond.methodLinkNest q.1 q.2.1 q.2.2 RX2 ∈ lw_tbl := by decide +kernel
theorem lw_strs : ∀ q ∈ strs, Cond.stringRef RX2 q.1 q.2 ∈ lw_tbl := by decide +kernel
theorem lw_cast : ∀ E ∈ exL, Cond.castable E E ∈ lw_tbl := by decide +kernel
theorem lw_lay1 : Cond.laysStatic Bundle.tN "UNASSIGNED_STACK" Bundle.steD ∈ lw_tbl := by decide +kernel
theorem lw_lay2 : Cond.laysStatic Bundle.tN "SUPPRESSED_SENTINEL" Bundle.listD ∈ lw_tbl := by decide +kernel
theorem lw_ref1 : Cond.isRef (.static Bundle.tN "UNASSIGNED_STACK" Bundle.steD) ∈ flatC (Jvm.Cond.and given_1 narrow_1) := by decide +kernel
theorem lw_ref2 : Cond.isRef (.static Bundle.tN "SUPPRESSED_SENTINEL" Bundle.listD) ∈ flatC (Jvm.Cond.and given_1 narrow_1) := by decide +kernel
theorem lw_not : ∀ q ∈ exP, Cond.not (Cond.castable q.1 q.2) ∈ flatC (Jvm.Cond.and given_1 narrow_1) := by decide +kernel
theorem lw_exa : ∀ q ∈ strs, Cond.exactly (.string RX2 q.1) "java/lang/String" ∈ flatC (Jvm.Cond.and given_1 narrow_1) := by decide +kernel
theorem lw_N {s : State} {args : Array Value} {A : Nat → Prop} (hts : ∀ w ∈ lw_tbl, w.before args s = true) (hgv : (Jvm.Cond.and given_1 narrow_1).before args s = true) (hA : ∀ a : Nat, a < s.heap.size → ¬ A a) : ∃ sa : Nat → Nat, NW A sa s s.heap ∧ NC s := by
  have hs := flat_of_before _ hgv
  have h1 : ∀ k : Nat, ∃ a : Nat, (∃ a9 : Nat, (Term.string RX2 k).eval args s none [] s = some (.ref a9)) → (Term.string RX2 k).eval args s none [] s = some (.ref a) := fun k => by
    by_cases h : ∃ a9 : Nat, (Term.string RX2 k).eval args s none [] s = some (.ref a9)
    · obtain ⟨a, ha⟩ := h
      exact ⟨a, fun _ => ha⟩
    · exact ⟨0, fun z => absurd z h⟩
  refine ⟨fun k => Classical.choose (h1 k), ⟨fun w hw => face_same (args := args) rfl (List.mem_filter.mp hw).2 (hts w (List.mem_filter.mp hw).1), fun q hq => va_Nw.of rfl (hts _ (lw_nests q hq)), fun q hq => ?_, vx_Zqof (hts _ lw_lay1) (hts _ (WW_tbl iN__java_lang_Throwable)) (hs _ lw_ref1) hA, vx_Zqof (hts _ lw_lay2) (hts _ (WW_tbl iN__java_lang_Throwable)) (hs _ lw_ref2) hA⟩, fun E hE => va_Nw.of rfl (hts _ (lw_cast E hE)), fun q hq => va_Nc.of (hs _ (lw_not q hq))⟩
  obtain ⟨a, -, -, -, ha, -⟩ := Cond.exactly_spec (hs _ (lw_exa q hq))
  exact vk_R.of (hts _ (lw_strs q hq)) (Classical.choose_spec (h1 q.1) ⟨a, ha⟩)
