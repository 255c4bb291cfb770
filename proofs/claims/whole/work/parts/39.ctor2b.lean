def qf (a b i : Nat) : Nat → Option Nat := fun t => if t < i then some (a + b * t) else none
theorem qf_zero (a b : Nat) : qf a b 0 = fun _ => none := funext fun t => if_neg (Nat.not_lt_zero t)
theorem qf_up (a b i : Nat) : va_up (qf a b i) i (some (a + b * i)) = qf a b (i + 1) := by
  funext t
  unfold qf
  by_cases z : t = i
  · subst z; rw [va_up_self, if_pos (Nat.lt_succ_self _)]
  · rw [va_up_ne _ _ z]
    by_cases h : t < i
    · rw [if_pos h, if_pos (by omega)]
    · rw [if_neg h, if_neg (by omega)]
theorem CLO.q {L : List Nat} {hp : Nat → KE} {k t n j v : Nat} {f : Nat → Option Nat} (h : CLO L hp) (hk : k ∈ L) (hh : hp k = kQ t n f) (hv : v ∈ L) : CLO L (va_up hp k (kQ t n (va_up f j (some v)))) := by
  have h1 := h k hk
  rw [hh] at h1
  refine h.up (fun j2 k2 e => ?_)
  by_cases z : j2 = j
  · subst z; rw [va_up_self] at e; cases e; exact hv
  · rw [va_up_ne _ _ z] at e; exact h1 j2 k2 e
/-- the component's objects, i gates and j lines of them made -/
def X2at (hp : Nat → KE) (i j : Nat) : Prop := hp 0 = XObj 0 0 0 0 ∧ hp 1 = kQ 2 9 (qf 7 3 i) ∧ hp 4 = kQ 3 10 (qf 34 2 j) ∧ PolyAt hp 2 (fun _ => 0) ∧ PolyAt hp 5 (fun _ => 0) ∧ (∀ t, t < j → PolyAt hp (34 + 2 * t) (fun _ => 0)) ∧ (∀ t, t < i → GateAt hp (7 + 3 * t) 0 0 0 0 (fun _ => 0) (fun _ => 0))
theorem X2at.gate {hp hp2 : Nat → KE} {i : Nat} (h : X2at hp i 0) (hi : i < 9) (hg : GateAt hp2 (7 + 3 * i) 0 0 0 0 (fun _ => 0) (fun _ => 0)) (hn : ∀ j, j ≠ 7 + 3 * i → j ≠ 7 + 3 * i + 1 → j ≠ 7 + 3 * i + 2 → hp2 j = hp j) : X2at (va_up hp2 1 (kQ 2 9 (qf 7 3 (i + 1)))) (i + 1) 0 := by
  have e : ∀ j, j ≠ 1 → j ≠ 7 + 3 * i → j ≠ 7 + 3 * i + 1 → j ≠ 7 + 3 * i + 2 → va_up hp2 1 (kQ 2 9 (qf 7 3 (i + 1))) j = hp j := fun j j0 j1 j2 j3 => (va_up_ne _ _ j0).trans (hn j j1 j2 j3)
  obtain ⟨h1, h2, h3, h4, h5, h6, h7⟩ := h
  refine ⟨(e _ (by omega) (by omega) (by omega) (by omega)).trans h1, va_up_self _ _ _, (e _ (by omega) (by omega) (by omega) (by omega)).trans h3, ⟨(e _ (by omega) (by omega) (by omega) (by omega)).trans h4.1, (e _ (by omega) (by omega) (by omega) (by omega)).trans h4.2⟩, ⟨(e _ (by omega) (by omega) (by omega) (by omega)).trans h5.1, (e _ (by omega) (by omega) (by omega) (by omega)).trans h5.2⟩, fun t ht => absurd ht (Nat.not_lt_zero t), fun t ht => ?_⟩
  by_cases z : t = i
  · subst z
    exact ⟨(va_up_ne _ _ (by omega)).trans hg.1, (va_up_ne _ _ (by omega)).trans hg.2.1, (va_up_ne _ _ (by omega)).trans hg.2.2⟩
  · have h9 := h7 t (by omega)
    exact ⟨(e _ (by omega) (by omega) (by omega) (by omega)).trans h9.1, (e _ (by omega) (by omega) (by omega) (by omega)).trans h9.2.1, (e _ (by omega) (by omega) (by omega) (by omega)).trans h9.2.2⟩
theorem X2at.line {hp : Nat → KE} {i : Nat} (h : X2at hp 9 i) (hi : i < 10) : X2at (va_up (setP hp (34 + 2 * i) (fun _ => 0)) 4 (kQ 3 10 (qf 34 2 (i + 1)))) 9 (i + 1) := by
  have e : ∀ j, j ≠ 4 → j ≠ 34 + 2 * i → j ≠ 34 + 2 * i + 1 → va_up (setP hp (34 + 2 * i) (fun _ => 0)) 4 (kQ 3 10 (qf 34 2 (i + 1))) j = hp j := fun j j0 j1 j2 => (va_up_ne _ _ j0).trans (setP_ne j1 j2)
  obtain ⟨h1, h2, h3, h4, h5, h6, h7⟩ := h
  refine ⟨(e _ (by omega) (by omega) (by omega)).trans h1, (e _ (by omega) (by omega) (by omega)).trans h2, va_up_self _ _ _, ⟨(e _ (by omega) (by omega) (by omega)).trans h4.1, (e _ (by omega) (by omega) (by omega)).trans h4.2⟩, ⟨(e _ (by omega) (by omega) (by omega)).trans h5.1, (e _ (by omega) (by omega) (by omega)).trans h5.2⟩, fun t ht => ?_, fun t ht => ?_⟩
  · by_cases z : t = i
    · subst z
      have h9 := setP_at hp (34 + 2 * t) (fun _ => 0)
      exact ⟨(va_up_ne _ _ (by omega)).trans h9.1, (va_up_ne _ _ (by omega)).trans h9.2⟩
    · have h9 := h6 t (by omega)
      exact ⟨(e _ (by omega) (by omega) (by omega)).trans h9.1, (e _ (by omega) (by omega) (by omega)).trans h9.2⟩
  · have h9 := h7 t (by omega)
    exact ⟨(e _ (by omega) (by omega) (by omega)).trans h9.1, (e _ (by omega) (by omega) (by omega)).trans h9.2.1, (e _ (by omega) (by omega) (by omega)).trans h9.2.2⟩
section
variable {l : Launch} {D : va_G} {dA ad sa : Nat → Nat} {L : List Nat} {hp : Nat → KE}
set_option maxHeartbeats 4000000 in
theorem c_X2_init (hj : kinj ad L) (hn : L.Nodup) (hk : 0 ∈ L) (hq : ∀ k ∈ L, k < 1 ∨ 54 ≤ k) (hcl : CLO L hp) (hh : hp 0 = kO 2 [.null, .int 0, .int 0, .null, .int 0, .null, .int 0, .null]) : KC l yX2_init cX2_init 2 (rmK 2 53 6385) D dA ad sa L [.ref 0] hp (nks 1 53) (fun hp' => X2at hp' 9 10 ∧ ∀ k, 54 ≤ k → hp' k = hp k) := by
  refine KC.of rfl ok_X2_init (len_of rfl) hj hn rfl ?_
  intro p e s m args below meth c A hC hN hI
  refine g_run hC 1 rfl ?_
  refine g_obj hC rfl mL_X2_1 ⟨by decide, by decide⟩ ?_
  refine g_run hC 2 rfl ?_
  refine g_newaQ (N := 9) (k := 1) hC hN rfl kL_X2_9 aO_0 (t := 2) rfl (by decide) (fun z => by have := hq _ z; omega) hcl (lv_cons (rv hk) lv_nil) (sv_cons (rv hk) sv_nil) ⟨by decide, by decide⟩ (fun ad1 a1 hC1 cl1 => ?_)
  have k1 := List.mem_append_left [1] hk
  refine g_putA hC1 rfl F_X2_11 k1 ((va_up_ne _ _ (by decide)).trans hh) (by decide) (Or.inr ⟨rfl, rfl, hI⟩) rfl rfl ?_
  have cl1b := cl1.put (j := 0) k1 ((va_up_ne _ _ (by decide)).trans hh) (rv (List.mem_append_right L (List.mem_singleton.mpr rfl)))
  refine g_run hC1 1 rfl ?_
  refine g_mkP (L0 := L) (b := 1) (n := 1) (k := 2) hC1 hN rfl rfl rfl rfl rfl (fun j hj => by have := hq _ hj; omega) cl1b (lv_cons (rv k1) lv_nil) (sv_cons (rv k1) sv_nil) ⟨by decide, by decide⟩ (by decide) ⟨by decide, by decide⟩ (fun ad2 a2 hC2 cl2 => ?_)
  have k2 : 0 ∈ L ++ nks 1 3 := List.mem_append_left _ hk
  have o2 : setP (va_up (va_up hp 1 (kQ 2 9 (fun _ => none))) 0 (kO 2 [.ref 1, .int 0, .int 0, .null, .int 0, .null, .int 0, .null])) 2 (fun _ => 0) 0 = kO 2 [.ref 1, .int 0, .int 0, .null, .int 0, .null, .int 0, .null] := (setP_ne (by decide) (by decide)).trans (va_up_self _ _ _)
  refine g_putA hC2 rfl F_X2_18 k2 o2 (by decide) (Or.inr ⟨rfl, rfl, hI⟩) rfl rfl ?_
  have cl2b := cl2.put (j := 3) k2 o2 (rv (List.mem_append_right L (nks_of (k := 2) (s := 1) (n := 3) (by decide) (by decide))))
  refine g_run hC2 2 rfl ?_
  refine g_newaQ (N := 10) (k := 4) hC2 hN rfl kL_X2_15 aO_1 (t := 3) rfl (by decide) (fun z => by
    rcases List.mem_append.mp z with z | z
    · have := hq _ z; omega
    · have := nks_mem z; omega) cl2b (lv_cons (rv k2) lv_nil) (sv_cons (rv k2) sv_nil) ⟨by decide, by decide⟩ (fun ad3 a3 hC3 cl3 => ?_)
  have k3 := List.mem_append_left [4] k2
  refine g_putA hC3 rfl F_X2_22 k3 ((va_up_ne _ _ (by decide)).trans (va_up_self _ _ _)) (by decide) (Or.inr ⟨rfl, rfl, hI⟩) rfl rfl ?_
  have cl3b := cl3.put (j := 5) k3 ((va_up_ne _ _ (by decide)).trans (va_up_self _ _ _)) (rv (List.mem_append_right (L ++ nks 1 3) (List.mem_singleton.mpr rfl)))
  refine g_run hC3 1 rfl ?_
  refine g_mkP (L0 := L) (b := 1) (n := 4) (k := 5) hC3 hN rfl rfl rfl (nks1 L 1 3) rfl (fun j hj => by have := hq _ hj; omega) cl3b (lv_cons (rv k3) lv_nil) (sv_cons (rv k3) sv_nil) ⟨by decide, by decide⟩ (by decide) ⟨by decide, by decide⟩ (fun ad4 a4 hC4 cl4 => ?_)
  have k4 : 0 ∈ L ++ nks 1 6 := List.mem_append_left _ hk
  refine g_putA hC4 rfl F_X2_26 k4 ((setP_ne (by decide) (by decide)).trans (va_up_self _ _ _)) (by decide) (Or.inr ⟨rfl, rfl, hI⟩) rfl rfl ?_
  have cl4b := cl4.put (j := 7) k4 ((setP_ne (by decide) (by decide)).trans (va_up_self _ _ _)) (rv (List.mem_append_right L (nks_of (k := 5) (s := 1) (n := 6) (by decide) (by decide))))
  have b4 : ∀ j ∈ L, ad4 j = ad j := fun j hj => (a4 j (List.mem_append_left _ (List.mem_append_left _ hj))).trans ((a3 j (List.mem_append_left _ hj)).trans ((a2 j (List.mem_append_left _ hj)).trans (a1 j hj)))
  refine g_run hC4 2 rfl ?_
  have lines : ∀ n i N cN sN, i + n = 10 → N = 33 + 2 * i → cN = 33 + 2 * i → sN = 1245 + 514 * i → ∀ (ad9 : Nat → Nat) (hp9 : Nat → KE), (∀ j ∈ L, ad9 j = ad j) → CX p s m args meth c RX2 cX2_init 2 none tb_X2_init D dA ad9 (L ++ nks 1 N) A → CLO (L ++ nks 1 N) hp9 → X2at hp9 9 i → (∀ k, 54 ≤ k → hp9 k = hp k) → G p l e (rmK 2 53 6385) s m args below meth c D dA ad9 (L ++ nks 1 N) A 2 cN sN (MQ below (kC D dA ad L A (nks 1 53) (fun hp' => X2at hp' 9 10 ∧ ∀ k, 54 ≤ k → hp' k = hp k)) args s 53 6385 A) hp9 76 [(1, .int (nI i)), (0, .ref 0)] [] := by
    intro n
    induction n with
    | zero =>
      intro i N cN sN hi hN9 hc9 hs9 ad9 hp9 b9 hC9 cl9 x9 f9
      obtain rfl : i = 10 := by omega
      obtain rfl : N = 53 := by omega
      have k9 : 0 ∈ L ++ nks 1 53 := List.mem_append_left _ hk
      refine g_run hC9 2 rfl ?_
      refine g_get hC9 rfl F_X2_22 k9 x9.1 rfl ?_
      refine g_alen (t := 3) (ty := .object RX1) hC9 rfl (List.mem_append_right _ (nks_of (by decide) (by decide))) x9.2.2.1 rfl ?_
      refine g_icge (tgt := 104) hC9 rfl (by decide) (fun _ => ?_) (fun h => ?_)
      · exact gC_ret hC9 rfl rfl b9 cl9 ⟨x9, f9⟩ (by omega) (by omega)
      · exact absurd ((nI_leI (a := 10) (b := 10) (by decide) (by decide)).mpr (Nat.le_refl _)) h
    | succ n ih =>
      intro i N cN sN hi hN9 hc9 hs9 ad9 hp9 b9 hC9 cl9 x9 f9
      have k9 : 0 ∈ L ++ nks 1 N := List.mem_append_left _ hk
      have k94 : 4 ∈ L ++ nks 1 N := List.mem_append_right _ (nks_of (by decide) (by omega))
      refine g_run hC9 2 rfl ?_
      refine g_get hC9 rfl F_X2_22 k9 x9.1 rfl ?_
      refine g_alen (t := 3) (ty := .object RX1) hC9 rfl k94 x9.2.2.1 rfl ?_
      refine g_icge (tgt := 104) hC9 rfl (by decide) (fun h => ?_) (fun _ => ?_)
      · exact absurd ((nI_leI (a := 10) (b := i) (by decide) (by omega)).mp h) (by omega)
      refine g_run hC9 1 rfl ?_
      refine g_get hC9 rfl F_X2_22 k9 x9.1 rfl ?_
      refine g_run hC9 1 rfl ?_
      refine g_mkP (L0 := L) (b := 1) (n := N) (k := 34 + 2 * i) hC9 hN rfl rfl rfl rfl (by omega) (fun j hj => by have := hq _ hj; omega) cl9 (lv_cons ri (lv_cons (rv k9) lv_nil)) (sv_cons ri (sv_cons (rv k94) sv_nil)) ⟨by decide, by decide⟩ (Nat.le_of_ble_eq_true rfl) ⟨by show cN + 2 ≤ 53; omega, by show sN + 514 ≤ 6385; omega⟩ (fun ad10 a10 hC10 cl10 => ?_)
      have kv : 34 + 2 * i ∈ L ++ nks 1 (N + 2) := List.mem_append_right _ (nks_of (by omega) (by omega))
      have k104 : 4 ∈ L ++ nks 1 (N + 2) := List.mem_append_right _ (nks_of (by decide) (by omega))
      have e4 : setP hp9 (34 + 2 * i) (fun _ => 0) 4 = kQ 3 10 (qf 34 2 i) := (setP_ne (by omega) (by omega)).trans x9.2.2.1
      refine g_ast (ci := 1) hC10 i rfl k104 e4 rfl kv (setP_at _ _ _).1 rfl rfl (by omega) (by decide) ?_
      have cl11 := cl10.q (j := i) k104 e4 kv
      rw [qf_up] at cl11 ⊢
      refine g_run hC10 2 rfl ?_
      refine g_lvs (lv' := [(1, .int (nI (i + 1))), (0, .ref 0)]) (ih (i + 1) (N + 2) (cN + 2) (sN + 514) (by omega) (by omega) (by omega) (by omega) ad10 _ (fun j hj => (a10 j (List.mem_append_left _ hj)).trans (b9 j hj)) hC10 cl11 (x9.line (by omega)) (fun k hk9 => ?_)) ⟨sI (nI_s i), rfl, trivial⟩
      rw [va_up_ne _ _ (by omega), setP_ne (by omega) (by omega)]
      exact f9 k hk9
  have gates : ∀ n i N cN sN, i + n = 9 → N = 6 + 3 * i → cN = 6 + 3 * i → sN = 1047 + 22 * i → ∀ (ad9 : Nat → Nat) (hp9 : Nat → KE), (∀ j ∈ L, ad9 j = ad j) → CX p s m args meth c RX2 cX2_init 2 none tb_X2_init D dA ad9 (L ++ nks 1 N) A → CLO (L ++ nks 1 N) hp9 → X2at hp9 i 0 → (∀ k, 54 ≤ k → hp9 k = hp k) → G p l e (rmK 2 53 6385) s m args below meth c D dA ad9 (L ++ nks 1 N) A 2 cN sN (MQ below (kC D dA ad L A (nks 1 53) (fun hp' => X2at hp' 9 10 ∧ ∀ k, 54 ≤ k → hp' k = hp k)) args s 53 6385 A) hp9 46 [(1, .int (nI i)), (0, .ref 0)] [] := by
    intro n
    induction n with
    | zero =>
      intro i N cN sN hi hN9 hc9 hs9 ad9 hp9 b9 hC9 cl9 x9 f9
      obtain rfl : i = 9 := by omega
      have k9 : 0 ∈ L ++ nks 1 N := List.mem_append_left _ hk
      refine g_run hC9 2 rfl ?_
      refine g_get hC9 rfl F_X2_11 k9 x9.1 rfl ?_
      refine g_alen (t := 2) (ty := .object RX0) hC9 rfl (List.mem_append_right _ (nks_of (by decide) (by omega))) x9.2.1 rfl ?_
      refine g_icge (tgt := 74) hC9 rfl (by decide) (fun _ => ?_) (fun h => ?_)
      · refine g_run hC9 2 rfl ?_
        exact lines 10 0 N cN sN rfl (by omega) (by omega) (by omega) ad9 hp9 b9 hC9 cl9 x9 f9
      · exact absurd ((nI_leI (a := 9) (b := 9) (by decide) (by decide)).mpr (Nat.le_refl _)) h
    | succ n ih =>
      intro i N cN sN hi hN9 hc9 hs9 ad9 hp9 b9 hC9 cl9 x9 f9
      have k9 : 0 ∈ L ++ nks 1 N := List.mem_append_left _ hk
      have k91 : 1 ∈ L ++ nks 1 N := List.mem_append_right _ (nks_of (by decide) (by omega))
      refine g_run hC9 2 rfl ?_
      refine g_get hC9 rfl F_X2_11 k9 x9.1 rfl ?_
      refine g_alen (t := 2) (ty := .object RX0) hC9 rfl k91 x9.2.1 rfl ?_
      refine g_icge (tgt := 74) hC9 rfl (by decide) (fun h => ?_) (fun _ => ?_)
      · exact absurd ((nI_leI (a := 9) (b := i) (by decide) (by omega)).mp h) (by omega)
      refine g_run hC9 1 rfl ?_
      refine g_get hC9 rfl F_X2_11 k9 x9.1 rfl ?_
      refine g_run hC9 1 rfl ?_
      refine g_mkG (L0 := L) (b := 1) (n := N) (k := 7 + 3 * i) hC9 hN rfl rfl rfl rfl (by omega) (fun j hj => by have := hq _ hj; omega) cl9 (lv_cons ri (lv_cons (rv k9) lv_nil)) (sv_cons ri (sv_cons (rv k91) sv_nil)) ⟨by decide, by decide⟩ (Nat.le_of_ble_eq_true rfl) ⟨by show cN + 3 ≤ 53; omega, by show sN + 22 ≤ 6385; omega⟩ (fun ad10 hp10 a10 hC10 cl10 g10 n10 => ?_)
      have kv : 7 + 3 * i ∈ L ++ nks 1 (N + 3) := List.mem_append_right _ (nks_of (by omega) (by omega))
      have k101 : 1 ∈ L ++ nks 1 (N + 3) := List.mem_append_right _ (nks_of (by decide) (by omega))
      have e1 : hp10 1 = kQ 2 9 (qf 7 3 i) := (n10 1 (by omega) (by omega) (by omega)).trans x9.2.1
      refine g_ast (ci := 0) hC10 i rfl k101 e1 rfl kv g10.1 rfl rfl (by omega) (by decide) ?_
      have cl11 := cl10.q (j := i) k101 e1 kv
      rw [qf_up] at cl11 ⊢
      refine g_run hC10 2 rfl ?_
      refine g_lvs (lv' := [(1, .int (nI (i + 1))), (0, .ref 0)]) (ih (i + 1) (N + 3) (cN + 3) (sN + 22) (by omega) (by omega) (by omega) (by omega) ad10 _ (fun j hj => (a10 j (List.mem_append_left _ hj)).trans (b9 j hj)) hC10 cl11 (x9.gate (by omega) g10 n10) (fun k hk9 => ?_)) ⟨sI (nI_s i), rfl, trivial⟩
      rw [va_up_ne _ _ (by omega), n10 k (by omega) (by omega) (by omega)]
      exact f9 k hk9
  refine gates 9 0 6 _ _ rfl rfl rfl rfl ad4 _ b4 hC4 cl4b ?_ (fun k hk9 => ?_)
  · refine ⟨rfl, ?_, ?_, ⟨rfl, rfl⟩, ⟨rfl, rfl⟩, fun t ht => absurd ht (Nat.not_lt_zero t), fun t ht => absurd ht (Nat.not_lt_zero t)⟩
    · rw [qf_zero]; rfl
    · rw [qf_zero]; rfl
  · rw [va_up_ne _ _ (by omega), setP_ne (by omega) (by omega), va_up_ne _ _ (by omega), va_up_ne _ _ (by omega), va_up_ne _ _ (by omega), setP_ne (by omega) (by omega), va_up_ne _ _ (by omega), va_up_ne _ _ (by omega)]
end
