theorem kw_extQ {D : va_G} {dA ad : Nat → Nat} {L : List Nat} {hp hp' : Nat → KE} {H : Heap} (h : ∀ k, hp k = hp' k ∨ ∃ (t n : Nat) (f g : Nat → Option Nat), hp k = kQ t n f ∧ hp' k = kQ t n g ∧ ∀ j, j < n → f j = g j) (hP : va_P D kcl (kw dA ad L hp) H) : va_P D kcl (kw dA ad L hp') H := by
  intro i q hi
  obtain ⟨k, h1, rfl⟩ := kw_at hi
  have h2 := hP i (ad k, emE dA ad (hp k)) (by simp [kw, h1])
  rcases h k with e | ⟨t, n, f, g, e1, e2, e3⟩
  · rw [← e]; exact h2
  · rw [e1] at h2
    rw [e2]
    have h3 : H[ad k]? = some (arrV (dA t) n (fun j => va_rf ((f j).map ad))) := h2
    show H[ad k]? = some (arrV (dA t) n (fun j => va_rf ((g j).map ad)))
    rw [h3, arrV_congr (fun j hj => by rw [e3 j hj])]
def gt0 : Nat → GT := fun _ => (0, 0, 0, 0, fun _ => 0, fun _ => 0)
def fullQ (hp : Nat → KE) : Nat → KE := va_up (va_up hp 1 (kQ 2 9 (fun i => some (7 + 3 * i)))) 4 (kQ 3 10 (fun i => some (34 + 2 * i)))
theorem fullQ_ne {hp : Nat → KE} {k : Nat} (h1 : k ≠ 1) (h4 : k ≠ 4) : fullQ hp k = hp k := (va_up_ne _ _ h4).trans (va_up_ne _ _ h1)
theorem X2at.full {hp : Nat → KE} (h : X2at hp 9 10) : XR (fullQ hp) 0 0 0 0 (fun _ => 0) (fun _ => 0) (fun _ _ => 0) gt0 := by
  obtain ⟨h1, h2, h3, h4, h5, h6, h7⟩ := h
  refine ⟨(fullQ_ne (by decide) (by decide)).trans h1, (va_up_ne _ _ (by decide)).trans (va_up_self _ _ _), va_up_self _ _ _, ⟨(fullQ_ne (by decide) (by decide)).trans h4.1, (fullQ_ne (by decide) (by decide)).trans h4.2⟩, ⟨(fullQ_ne (by decide) (by decide)).trans h5.1, (fullQ_ne (by decide) (by decide)).trans h5.2⟩, fun i hi => ⟨(fullQ_ne (by omega) (by omega)).trans (h6 i hi).1, (fullQ_ne (by omega) (by omega)).trans (h6 i hi).2⟩, fun i hi => ⟨(fullQ_ne (by omega) (by omega)).trans (h7 i hi).1, (fullQ_ne (by omega) (by omega)).trans (h7 i hi).2.1, (fullQ_ne (by omega) (by omega)).trans (h7 i hi).2.2⟩⟩
theorem X2at.ext {hp : Nat → KE} (h : X2at hp 9 10) : ∀ k, hp k = fullQ hp k ∨ ∃ (t n : Nat) (f g : Nat → Option Nat), hp k = kQ t n f ∧ fullQ hp k = kQ t n g ∧ ∀ j, j < n → f j = g j := fun k => by
  by_cases z1 : k = 1
  · subst z1
    exact Or.inr ⟨2, 9, qf 7 3 9, fun i => some (7 + 3 * i), h.2.1, (va_up_ne _ _ (by decide)).trans (va_up_self _ _ _), fun j hj => if_pos hj⟩
  · by_cases z4 : k = 4
    · subst z4
      exact Or.inr ⟨3, 10, qf 34 2 10, fun i => some (34 + 2 * i), h.2.2.1, va_up_self _ _ _, fun j hj => if_pos hj⟩
    · exact Or.inl (fullQ_ne z1 z4).symm
theorem X2at.lo {hp hp2 : Nat → KE} (h : X2at hp 9 10) (hF : ∀ k, k < 54 → hp2 k = hp k) : X2at hp2 9 10 := by
  obtain ⟨h1, h2, h3, h4, h5, h6, h7⟩ := h
  exact ⟨(hF _ (by omega)).trans h1, (hF _ (by omega)).trans h2, (hF _ (by omega)).trans h3, ⟨(hF _ (by omega)).trans h4.1, (hF _ (by omega)).trans h4.2⟩, ⟨(hF _ (by omega)).trans h5.1, (hF _ (by omega)).trans h5.2⟩, fun i hi => ⟨(hF _ (by omega)).trans (h6 i hi).1, (hF _ (by omega)).trans (h6 i hi).2⟩, fun i hi => ⟨(hF _ (by omega)).trans (h7 i hi).1, (hF _ (by omega)).trans (h7 i hi).2.1, (hF _ (by omega)).trans (h7 i hi).2.2⟩⟩
set_option maxRecDepth 100000 in
set_option maxHeartbeats 4000000 in
theorem l_start {p : Program} {l : Launch} {e : Env} {s : State} {m : MethodId} {below : List Frame} {meth : Method} {c : Code} {D : va_G} {dA sa : Nat → Nat} {b N : Nat} {xs : Nat → Int32} {hp : Nat → KE} (hC : CX p s m #[Value.ref b] meth c RL cL_law 8 (some .boolean) tb_L_law D dA (fun _ => b) [] (fun q => s.heap.size ≤ q)) (hN : NW (fun q => s.heap.size ≤ q) sa s s.heap) (hNC : NC s) (hfl : l.stackTraces = false) (hX : LX (fun _ => b) (fun q => s.heap.size ≤ q) b N xs s) :
    G p l e room_1 s m #[Value.ref b] below meth c D dA (fun _ => b) [] (fun q => s.heap.size ≤ q) 8 0 0 (lw_Z below #[Value.ref b] s) hp 0 [(0, .ref 66)] [] := by
  have m66 : 66 ∈ [66] := List.mem_singleton.mpr rfl
  refine g_newM (k := 0) (M := [66]) hC rfl NEW_L2 List.not_mem_nil (by decide) (fun j hj => by cases hj) (lv_cons (rv m66) lv_nil) sv_nil ⟨by decide, by decide⟩ (fun ad1 a1 hC1 cl1 => ?_)
  have q1 : ∀ k ∈ [] ++ [0], k < 1 ∨ 54 ≤ k := fun k hk => by have := List.mem_singleton.mp hk; omega
  have k0 : (0 : Nat) ∈ [] ++ [0] := List.mem_singleton.mpr rfl
  refine g_run hC1 1 rfl ?_
  refine g_initM (M := [66, 0]) (nk := nks 1 53) hC1 hN (c_X2_init hC1.2.2.2.2.2.1 hC1.2.2.2.2.2.2.1 k0 q1 cl1 (va_up_self _ _ _)) rfl MIL_2 (nks_app hC1.2.2.2.2.2.2.1 (fun k hk => by have := q1 k hk; omega)) (fun j hj z => ?_) (lv_cons (rv (by decide)) lv_nil) (sv_cons (rv (by decide)) sv_nil) (len_of rfl) (by decide) ⟨by decide, by decide⟩ (fun ad2 hp2 a2 hC2 cl2 h2 => ?_)
  · have := nks_mem hj
    rcases List.mem_cons.mp z with z | z
    · omega
    · have := List.mem_singleton.mp z; omega
  have n2 : ∀ k ∈ ([] ++ [0]) ++ nks 1 53, k < 54 := fun k hk => by
    rcases List.mem_append.mp hk with z | z
    · have := List.mem_singleton.mp z; omega
    · have := nks_mem z; omega
  refine g_run hC2 1 rfl ?_
  refine g_newM (k := 54) (M := [66, 0]) hC2 rfl NEW_L3 (fun z => by have := n2 _ z; omega) (by decide) cl2 (lv_cons (rv (by decide)) (lv_cons (rv (by decide)) lv_nil)) sv_nil ⟨by decide, by decide⟩ (fun ad3 a3 hC3 cl3 => ?_)
  have n3 : ∀ k ∈ (([] ++ [0]) ++ nks 1 53) ++ [54], k < 55 := fun k hk => by
    rcases List.mem_append.mp hk with z | z
    · have := n2 _ z; omega
    · have := List.mem_singleton.mp z; omega
  have k54 : (54 : Nat) ∈ (([] ++ [0]) ++ nks 1 53) ++ [54] := List.mem_append_right _ (List.mem_singleton.mpr rfl)
  refine g_run hC3 1 rfl ?_
  refine g_initM (M := [66, 0, 54]) (nk := nks 55 10) hC3 hN (c_X3_init hC3.2.2.2.2.2.1 hC3.2.2.2.2.2.2.1 k54 (fun k hk => Or.inl (n3 k hk)) cl3 (va_up_self _ _ _)) rfl MIL_3 (nks_app hC3.2.2.2.2.2.2.1 (fun k hk => Or.inl (n3 k hk))) (fun j hj z => ?_) (lv_cons (rv (by decide)) (lv_cons (rv (by decide)) lv_nil)) (sv_cons (rv (by decide)) sv_nil) (len_of rfl) (by decide) ⟨by decide, by decide⟩ (fun ad4 hp4 a4 hC4 cl4 h4 => ?_)
  · have := nks_mem hj
    rcases List.mem_cons.mp z with z | z
    · omega
    rcases List.mem_cons.mp z with z | z
    · omega
    · have := List.mem_singleton.mp z; omega
  have n4 : ∀ k ∈ ((([] ++ [0]) ++ nks 1 53) ++ [54]) ++ nks 55 10, k < 65 := fun k hk => by
    rcases List.mem_append.mp hk with z | z
    · have := n3 _ z; omega
    · have := nks_mem z; omega
  refine g_run hC4 2 rfl ?_
  refine g_newaJM (N := 1) (k := 65) (M := [66, 0, 54]) hC4 rfl (by decide) (fun z => by have := n4 _ z; omega) (by decide) cl4 (lv_cons (rv (by decide)) (lv_cons (rv (by decide)) (lv_cons (rv (by decide)) lv_nil))) sv_nil ⟨by decide, by decide⟩ (fun ad5 a5 hC5 cl5 => ?_)
  refine g_run hC5 3 rfl ?_
  have e66 : ad5 66 = b := by
    rw [a5 66 (by decide), a4 66 (fun z => by have := nks_mem z; omega), a3 66 (by decide), a2 66 (fun z => by have := nks_mem z; omega), a1 66 (by decide)]
  have hX5 : LX ad5 (fun q => s.heap.size ≤ q) b N xs s := ⟨hX.1, hX.2.1, hX.2.2.1, e66, hX.2.2.2.2⟩
  have hKF : KF ad5 ((((([] ++ [0]) ++ nks 1 53) ++ [54]) ++ nks 55 10) ++ [65]) := ⟨⟨hC5.2.2.2.2.2.1, hC5.2.2.2.2.2.2.1⟩, fun k hk => by
    by_cases z0 : k = 0
    · subst z0; exact List.mem_append_left _ (List.mem_append_left _ (List.mem_append_left _ (List.mem_append_left _ k0)))
    by_cases z1 : k < 54
    · exact List.mem_append_left _ (List.mem_append_left _ (List.mem_append_left _ (List.mem_append_right _ (nks_of (by omega) (by omega)))))
    by_cases z2 : k = 54
    · subst z2; exact List.mem_append_left _ (List.mem_append_left _ k54)
    by_cases z3 : k < 65
    · exact List.mem_append_left _ (List.mem_append_right _ (nks_of (by omega) (by omega)))
    · exact List.mem_append_right _ (List.mem_singleton.mpr (by omega))⟩
  have x5 : X2at (va_up hp4 65 (kJ 1 (fun _ => 0))) 9 10 := h2.1.lo (fun k hk => by rw [va_up_ne _ _ (by omega), h4.2 k (Or.inl hk), va_up_ne _ _ (by omega)])
  have m5 : MR (fullQ (va_up hp4 65 (kJ 1 (fun _ => 0)))) 0 0 0 0 (fun _ => 0) (fun _ => 0) (fun _ => 0) (fun _ => 0) (fun _ => 0) (fun _ => 0) (fun _ => 0) (fun _ => 0) (fun _ => 0) (fun _ => 0) := h4.1.fw (fun k h1 h2 => by rw [fullQ_ne (by omega) (by omega), va_up_ne _ _ (by omega)])
  have i5 : INV (fullQ (va_up hp4 65 (kJ 1 (fun _ => 0)))) := mkinv (f := fun _ => 0) x5.full m5 ((fullQ_ne (by decide) (by decide)).trans (va_up_self _ _ _)) BI.clear
  have K := l_loop (e := e) (below := below) hC5 hN hNC hKF hfl hX5 (N + 1) 0 _ 100 10000 (by omega) (by omega) (by decide) (by decide) i5
  refine g_widen (k := 100) (n := 10000) (by decide) (by decide) ?_
  refine fun H locs ls hP hS hl => ?_
  exact g_lvs (lv' := LV 0) K ⟨rfl, rfl, rfl, rfl, rfl, trivial⟩ H locs ls (kw_extQ x5.ext hP) hS hl
/-- from the entry, for every script of at most 2560 ints, the law comes to its end with true -/
theorem whole_start {p : Program} {e : Env} {s : State} {m : MethodId} {below : List Frame} {meth : Method} {c : Code} (l : Launch) (hflags : l.flags = flags0) {b L : Nat} {xs : Nat → Int32} (hL : L ≤ 2560) (C0 : lw_At p s m meth c b L xs) : W p l e room_1 s m #[Value.ref b] below meth c s.heap [] 0 0 (lw_Z below #[Value.ref b] s) (entryFrame m ([Value.ref b] : List Value).toArray 8) := by
  obtain ⟨hx, hb, hr, hml, hown, hts, hX, hbl, hlocks, hgv⟩ := C0
  have hfl : l.stackTraces = false := by
    unfold Launch.stackTraces
    rw [hflags]
    decide +kernel
  obtain ⟨D, dA, hK⟩ := lw_K hts
  obtain ⟨sa, hN, hNC⟩ := lw_N (A := fun q => s.heap.size ≤ q) hts hgv (fun a ha => Nat.not_le.mpr ha)
  have hC : CX p s m #[Value.ref b] meth c RL cL_law 8 (some .boolean) tb_L_law D dA (fun _ => b) [] (fun q => s.heap.size ≤ q) := ⟨⟨hx, hb, hml, hown, fun w h => hts w (WW_tbl h)⟩, hr, hlocks, ok_L_law, hK, fun i hi => (by cases hi), List.nodup_nil, fun k hk => (by cases hk), fun q h => h⟩
  have key := l_start (e := e) (below := below) (hp := fun _ => kI 0 (fun _ => 0)) hC hN hNC hfl ⟨hX, hbl, Nat.not_le.mpr hbl, rfl, hL⟩
  have hl := lv_entry [Value.ref b] (n := 8) (len_of rfl)
  rw [lg_entry_eq]
  exact key s.heap [] _ (fun k q h => by cases h) va_S.rf hl
