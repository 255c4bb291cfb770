section
variable {l : Launch} {D : va_G} {dA ad sa : Nat → Nat} {L : List Nat} {hp : Nat → KE} {fs : List Value} {d mc ms : Nat} {post : Option Value → (Nat → KE) → Prop} {px : String → (Nat → KE) → Prop}
theorem c_L_input (hW : KF ad L) (h0 : hp 0 = kO 2 fs) (hM : KX l yX2_input cX2_input 1 (some .int) (rmK d mc ms) D dA ad sa L [.ref 0] hp post px) (ho : ∀ r hp', post r hp' → ∃ (v : Int32) (f : Nat → Int64), r = some (.int v) ∧ hp' 65 = kJ 1 f) (hx : ∀ E hp', px E hp' → E = ISE) : KH l yL_input cL_input 3 [(0, 8, 11, 13)] (rmK (d + 1) mc ms) D dA ad sa L [.ref 0, .ref 65] hp (fun r hp' => (∃ (v : Int32) (hp1 : Nat → KE) (f : Nat → Int64), post (some (.int v)) hp1 ∧ hp1 65 = kJ 1 f ∧ r = some (.int 0) ∧ hp' = va_up hp1 65 (kJ 1 (va_up f 0 v.toInt64))) ∨ (px ISE hp' ∧ r = some (.int 1))) := by
  refine KH.of rfl ok_L_input (len_of rfl) hW.1.1 hW.1.2 ?_
  intro p e s m args below meth c A hC hN hNC htab
  refine g_run hC 3 rfl ?_
  refine g_callVH hC hN hNC htab [] hM rfl M_L_7 (hW.2 0 (by decide)) h0 rfl rfl (len_of rfl) ⟨Nat.le_refl _, by show 8 + (1 + 11) + 40 * d ≤ 40 * (d + 1); omega⟩ ⟨by show 0 + mc ≤ mc; omega, by show 0 + ms ≤ ms; omega⟩ (fun E hp1 hE => ?_) (fun r hp1 hr => ?_)
  · obtain rfl := hx E hp1 hE
    refine ⟨11, ⟨[], (0, 8, 11, 13), [], rfl, ?_, rfl, by decide, kL_L_13, by decide +kernel, rfl⟩, g_caught_n hC rfl (by decide) ?_⟩
    · intro z hz; cases hz
    · refine g_run hC 1 rfl ?_
      exact gx_iret hC rfl rfl (Or.inr (⟨hE, rfl⟩)) (by show 0 + mc ≤ mc; omega) (by show 0 + ms ≤ ms; omega)
  · obtain ⟨v, f, rfl, h65⟩ := ho r hp1 hr
    refine g_run hC 1 rfl ?_
    refine g_lst hC 0 rfl (hW.2 65 (by decide)) h65 rfl (by decide) (by decide) ?_
    refine g_run hC 2 rfl ?_
    exact gx_iret hC rfl rfl (Or.inl ⟨v, hp1, f, hr, h65, rfl, rfl⟩) (by show 0 + mc ≤ mc; omega) (by show 0 + ms ≤ ms; omega)
theorem c_L_gate (hW : KF ad L) {x0 x1 x2 x3 : Int32} (h0 : hp 0 = kO 2 fs) (hM : KX l yX2_gate cX2_gate 7 (some .int) (rmK d mc ms) D dA ad sa L [.ref 0, .int x0, .int x1, .int x2, .int x3] hp post px) (ho : ∀ r hp', post r hp' → ∃ (v : Int32) (f : Nat → Int64), r = some (.int v) ∧ hp' 65 = kJ 1 f) (hx : ∀ E hp', px E hp' → E = IAE ∨ E = ISE) : KH l yL_gate cL_gate 7 [(0, 14, 17, 19), (0, 14, 21, 13)] (rmK (d + 1) mc ms) D dA ad sa L [.ref 0, .int x0, .int x1, .int x2, .int x3, .ref 65] hp (fun r hp' => (∃ (v : Int32) (hp1 : Nat → KE) (f : Nat → Int64), post (some (.int v)) hp1 ∧ hp1 65 = kJ 1 f ∧ r = some (.int 0) ∧ hp' = va_up hp1 65 (kJ 1 (va_up f 0 v.toInt64))) ∨ (px IAE hp' ∧ r = some (.int 1)) ∨ (px ISE hp' ∧ r = some (.int 2))) := by
  refine KH.of rfl ok_L_gate (len_of rfl) hW.1.1 hW.1.2 ?_
  intro p e s m args below meth c A hC hN hNC htab
  refine g_run hC 7 rfl ?_
  refine g_callVH hC hN hNC htab [.int x0, .int x1, .int x2, .int x3] hM rfl M_L_15 (hW.2 0 (by decide)) h0 rfl rfl (len_of rfl) ⟨Nat.le_refl _, by show 8 + (7 + 11) + 40 * d ≤ 40 * (d + 1); omega⟩ ⟨by show 0 + mc ≤ mc; omega, by show 0 + ms ≤ ms; omega⟩ (fun E hp1 hE => ?_) (fun r hp1 hr => ?_)
  · rcases hx E hp1 hE with rfl | rfl
    · refine ⟨17, ⟨[], (0, 14, 17, 19), [(0, 14, 21, 13)], rfl, ?_, rfl, by decide, kL_L_19, by decide +kernel, rfl⟩, g_caught hC rfl (by decide) ?_⟩
      · intro z hz; cases hz
      · refine g_run hC 1 rfl ?_
        exact gx_iret hC rfl rfl (Or.inr (Or.inl ⟨hE, rfl⟩)) (by show 0 + mc ≤ mc; omega) (by show 0 + ms ≤ ms; omega)
    · refine ⟨21, ⟨[(0, 14, 17, 19)], (0, 14, 21, 13), [], rfl, ?_, rfl, by decide, kL_L_13, by decide +kernel, rfl⟩, g_caught hC rfl (by decide) ?_⟩
      · intro z hz
        obtain rfl := List.mem_singleton.mp hz
        exact ⟨by decide, _, kL_L_19, by decide +kernel⟩
      · refine g_run hC 1 rfl ?_
        exact gx_iret hC rfl rfl (Or.inr (Or.inr (⟨hE, rfl⟩))) (by show 0 + mc ≤ mc; omega) (by show 0 + ms ≤ ms; omega)
  · obtain ⟨v, f, rfl, h65⟩ := ho r hp1 hr
    refine g_run hC 1 rfl ?_
    refine g_lst hC 0 rfl (hW.2 65 (by decide)) h65 rfl (by decide) (by decide) ?_
    refine g_run hC 2 rfl ?_
    exact gx_iret hC rfl rfl (Or.inl ⟨v, hp1, f, hr, h65, rfl, rfl⟩) (by show 0 + mc ≤ mc; omega) (by show 0 + ms ≤ ms; omega)
theorem c_L_add (hW : KF ad L) {x0 x1 : Int32} (h0 : hp 0 = kO 2 fs) (hM : KX l yX2_add cX2_add 3 (some .int) (rmK d mc ms) D dA ad sa L [.ref 0, .int x0, .int x1] hp post px) (ho : ∀ r hp', post r hp' → ∃ (v : Int32) (f : Nat → Int64), r = some (.int v) ∧ hp' 65 = kJ 1 f) (hx : ∀ E hp', px E hp' → E = IAE ∨ E = ISE) : KH l yL_add cL_add 5 [(0, 10, 13, 19), (0, 10, 17, 13)] (rmK (d + 1) mc ms) D dA ad sa L [.ref 0, .int x0, .int x1, .ref 65] hp (fun r hp' => (∃ (v : Int32) (hp1 : Nat → KE) (f : Nat → Int64), post (some (.int v)) hp1 ∧ hp1 65 = kJ 1 f ∧ r = some (.int 0) ∧ hp' = va_up hp1 65 (kJ 1 (va_up f 0 v.toInt64))) ∨ (px IAE hp' ∧ r = some (.int 1)) ∨ (px ISE hp' ∧ r = some (.int 2))) := by
  refine KH.of rfl ok_L_add (len_of rfl) hW.1.1 hW.1.2 ?_
  intro p e s m args below meth c A hC hN hNC htab
  refine g_run hC 5 rfl ?_
  refine g_callVH hC hN hNC htab [.int x0, .int x1] hM rfl M_L_21 (hW.2 0 (by decide)) h0 rfl rfl (len_of rfl) ⟨Nat.le_refl _, by show 8 + (3 + 11) + 40 * d ≤ 40 * (d + 1); omega⟩ ⟨by show 0 + mc ≤ mc; omega, by show 0 + ms ≤ ms; omega⟩ (fun E hp1 hE => ?_) (fun r hp1 hr => ?_)
  · rcases hx E hp1 hE with rfl | rfl
    · refine ⟨13, ⟨[], (0, 10, 13, 19), [(0, 10, 17, 13)], rfl, ?_, rfl, by decide, kL_L_19, by decide +kernel, rfl⟩, g_caught hC rfl (by decide) ?_⟩
      · intro z hz; cases hz
      · refine g_run hC 1 rfl ?_
        exact gx_iret hC rfl rfl (Or.inr (Or.inl ⟨hE, rfl⟩)) (by show 0 + mc ≤ mc; omega) (by show 0 + ms ≤ ms; omega)
    · refine ⟨17, ⟨[(0, 10, 13, 19)], (0, 10, 17, 13), [], rfl, ?_, rfl, by decide, kL_L_13, by decide +kernel, rfl⟩, g_caught hC rfl (by decide) ?_⟩
      · intro z hz
        obtain rfl := List.mem_singleton.mp hz
        exact ⟨by decide, _, kL_L_19, by decide +kernel⟩
      · refine g_run hC 1 rfl ?_
        exact gx_iret hC rfl rfl (Or.inr (Or.inr (⟨hE, rfl⟩))) (by show 0 + mc ≤ mc; omega) (by show 0 + ms ≤ ms; omega)
  · obtain ⟨v, f, rfl, h65⟩ := ho r hp1 hr
    refine g_run hC 1 rfl ?_
    refine g_lst hC 0 rfl (hW.2 65 (by decide)) h65 rfl (by decide) (by decide) ?_
    refine g_run hC 2 rfl ?_
    exact gx_iret hC rfl rfl (Or.inl ⟨v, hp1, f, hr, h65, rfl, rfl⟩) (by show 0 + mc ≤ mc; omega) (by show 0 + ms ≤ ms; omega)
theorem c_L_simulate (hW : KF ad L) {x0 : Int32} (h0 : hp 0 = kO 2 fs) (hM : KX l yX2_simulate cX2_simulate 2 (some .int) (rmK d mc ms) D dA ad sa L [.ref 0, .int x0] hp post px) (ho : ∀ r hp', post r hp' → ∃ (v : Int32) (f : Nat → Int64), r = some (.int v) ∧ hp' 65 = kJ 1 f) (hx : ∀ E hp', px E hp' → E = IAE) : KH l yL_simulate cL_simulate 4 [(0, 9, 12, 19)] (rmK (d + 1) mc ms) D dA ad sa L [.ref 0, .int x0, .ref 65] hp (fun r hp' => (∃ (v : Int32) (hp1 : Nat → KE) (f : Nat → Int64), post (some (.int v)) hp1 ∧ hp1 65 = kJ 1 f ∧ r = some (.int 0) ∧ hp' = va_up hp1 65 (kJ 1 (va_up f 0 v.toInt64))) ∨ (px IAE hp' ∧ r = some (.int 1))) := by
  refine KH.of rfl ok_L_simulate (len_of rfl) hW.1.1 hW.1.2 ?_
  intro p e s m args below meth c A hC hN hNC htab
  refine g_run hC 4 rfl ?_
  refine g_callVH hC hN hNC htab [.int x0] hM rfl M_L_25 (hW.2 0 (by decide)) h0 rfl rfl (len_of rfl) ⟨Nat.le_refl _, by show 8 + (2 + 11) + 40 * d ≤ 40 * (d + 1); omega⟩ ⟨by show 0 + mc ≤ mc; omega, by show 0 + ms ≤ ms; omega⟩ (fun E hp1 hE => ?_) (fun r hp1 hr => ?_)
  · obtain rfl := hx E hp1 hE
    refine ⟨12, ⟨[], (0, 9, 12, 19), [], rfl, ?_, rfl, by decide, kL_L_19, by decide +kernel, rfl⟩, g_caught_n hC rfl (by decide) ?_⟩
    · intro z hz; cases hz
    · refine g_run hC 1 rfl ?_
      exact gx_iret hC rfl rfl (Or.inr (⟨hE, rfl⟩)) (by show 0 + mc ≤ mc; omega) (by show 0 + ms ≤ ms; omega)
  · obtain ⟨v, f, rfl, h65⟩ := ho r hp1 hr
    refine g_run hC 1 rfl ?_
    refine g_lst hC 0 rfl (hW.2 65 (by decide)) h65 rfl (by decide) (by decide) ?_
    refine g_run hC 2 rfl ?_
    exact gx_iret hC rfl rfl (Or.inl ⟨v, hp1, f, hr, h65, rfl, rfl⟩) (by show 0 + mc ≤ mc; omega) (by show 0 + ms ≤ ms; omega)
theorem c_L_evaluate (hW : KF ad L) {x0 : Int32} (h0 : hp 0 = kO 2 fs) (hM : KX l yX2_evaluate cX2_evaluate 2 (some .long) (rmK d mc ms) D dA ad sa L [.ref 0, .int x0] hp post px) (ho : ∀ r hp', post r hp' → ∃ (v : Int64) (f : Nat → Int64), r = some (.long v) ∧ hp' 65 = kJ 1 f) (hx : ∀ E hp', px E hp' → E = IAE) : KH l yL_evaluate cL_evaluate 4 [(0, 8, 11, 19)] (rmK (d + 1) mc ms) D dA ad sa L [.ref 0, .int x0, .ref 65] hp (fun r hp' => (∃ (v : Int64) (hp1 : Nat → KE) (f : Nat → Int64), post (some (.long v)) hp1 ∧ hp1 65 = kJ 1 f ∧ r = some (.int 0) ∧ hp' = va_up hp1 65 (kJ 1 (va_up f 0 v))) ∨ (px IAE hp' ∧ r = some (.int 1))) := by
  refine KH.of rfl ok_L_evaluate (len_of rfl) hW.1.1 hW.1.2 ?_
  intro p e s m args below meth c A hC hN hNC htab
  refine g_run hC 4 rfl ?_
  refine g_callVH hC hN hNC htab [.int x0] hM rfl M_L_29 (hW.2 0 (by decide)) h0 rfl rfl (len_of rfl) ⟨Nat.le_refl _, by show 8 + (2 + 11) + 40 * d ≤ 40 * (d + 1); omega⟩ ⟨by show 0 + mc ≤ mc; omega, by show 0 + ms ≤ ms; omega⟩ (fun E hp1 hE => ?_) (fun r hp1 hr => ?_)
  · obtain rfl := hx E hp1 hE
    refine ⟨11, ⟨[], (0, 8, 11, 19), [], rfl, ?_, rfl, by decide, kL_L_19, by decide +kernel, rfl⟩, g_caught_n hC rfl (by decide) ?_⟩
    · intro z hz; cases hz
    · refine g_run hC 1 rfl ?_
      exact gx_iret hC rfl rfl (Or.inr (⟨hE, rfl⟩)) (by show 0 + mc ≤ mc; omega) (by show 0 + ms ≤ ms; omega)
  · obtain ⟨v, f, rfl, h65⟩ := ho r hp1 hr
    refine g_lst hC 0 rfl (hW.2 65 (by decide)) h65 rfl (by decide) (by decide) ?_
    refine g_run hC 2 rfl ?_
    exact gx_iret hC rfl rfl (Or.inl ⟨v, hp1, f, hr, h65, rfl, rfl⟩) (by show 0 + mc ≤ mc; omega) (by show 0 + ms ≤ ms; omega)
theorem c_L_prove (hW : KF ad L) (h0 : hp 0 = kO 2 fs) (hM : KX l yX2_prove cX2_prove 3 (some .int) (rmK d mc ms) D dA ad sa L [.ref 0] hp post px) (ho : ∀ r hp', post r hp' → ∃ (v : Int32) (f : Nat → Int64), r = some (.int v) ∧ hp' 65 = kJ 1 f) (hx : ∀ E hp', px E hp' → E = AEX) : KH l yL_prove cL_prove 3 [(0, 8, 11, 36)] (rmK (d + 1) mc ms) D dA ad sa L [.ref 0, .ref 65] hp (fun r hp' => (∃ (v : Int32) (hp1 : Nat → KE) (f : Nat → Int64), post (some (.int v)) hp1 ∧ hp1 65 = kJ 1 f ∧ r = some (.int 0) ∧ hp' = va_up hp1 65 (kJ 1 (va_up f 0 v.toInt64))) ∨ (px AEX hp' ∧ r = some (.int 1))) := by
  refine KH.of rfl ok_L_prove (len_of rfl) hW.1.1 hW.1.2 ?_
  intro p e s m args below meth c A hC hN hNC htab
  refine g_run hC 3 rfl ?_
  refine g_callVH hC hN hNC htab [] hM rfl M_L_33 (hW.2 0 (by decide)) h0 rfl rfl (len_of rfl) ⟨Nat.le_refl _, by show 8 + (3 + 11) + 40 * d ≤ 40 * (d + 1); omega⟩ ⟨by show 0 + mc ≤ mc; omega, by show 0 + ms ≤ ms; omega⟩ (fun E hp1 hE => ?_) (fun r hp1 hr => ?_)
  · obtain rfl := hx E hp1 hE
    refine ⟨11, ⟨[], (0, 8, 11, 36), [], rfl, ?_, rfl, by decide, kL_L_36, by decide +kernel, rfl⟩, g_caught_n hC rfl (by decide) ?_⟩
    · intro z hz; cases hz
    · refine g_run hC 1 rfl ?_
      exact gx_iret hC rfl rfl (Or.inr (⟨hE, rfl⟩)) (by show 0 + mc ≤ mc; omega) (by show 0 + ms ≤ ms; omega)
  · obtain ⟨v, f, rfl, h65⟩ := ho r hp1 hr
    refine g_run hC 1 rfl ?_
    refine g_lst hC 0 rfl (hW.2 65 (by decide)) h65 rfl (by decide) (by decide) ?_
    refine g_run hC 2 rfl ?_
    exact gx_iret hC rfl rfl (Or.inl ⟨v, hp1, f, hr, h65, rfl, rfl⟩) (by show 0 + mc ≤ mc; omega) (by show 0 + ms ≤ ms; omega)
theorem c_L_size (hW : KF ad L) {x0 : Int32} (h0 : hp 0 = kO 2 fs) (hM : KX l yX2_size cX2_size 2 (some .int) (rmK d mc ms) D dA ad sa L [.ref 0, .int x0] hp post px) (ho : ∀ r hp', post r hp' → ∃ (v : Int32) (f : Nat → Int64), r = some (.int v) ∧ hp' 65 = kJ 1 f) (hx : ∀ E hp', px E hp' → E = ISE ∨ E = IOB) : KH l yL_size cL_size 4 [(0, 9, 12, 13), (0, 9, 15, 41)] (rmK (d + 1) mc ms) D dA ad sa L [.ref 0, .int x0, .ref 65] hp (fun r hp' => (∃ (v : Int32) (hp1 : Nat → KE) (f : Nat → Int64), post (some (.int v)) hp1 ∧ hp1 65 = kJ 1 f ∧ r = some (.int 0) ∧ hp' = va_up hp1 65 (kJ 1 (va_up f 0 v.toInt64))) ∨ (px ISE hp' ∧ r = some (.int 1)) ∨ (px IOB hp' ∧ r = some (.int 2))) := by
  refine KH.of rfl ok_L_size (len_of rfl) hW.1.1 hW.1.2 ?_
  intro p e s m args below meth c A hC hN hNC htab
  refine g_run hC 4 rfl ?_
  refine g_callVH hC hN hNC htab [.int x0] hM rfl M_L_38 (hW.2 0 (by decide)) h0 rfl rfl (len_of rfl) ⟨Nat.le_refl _, by show 8 + (2 + 11) + 40 * d ≤ 40 * (d + 1); omega⟩ ⟨by show 0 + mc ≤ mc; omega, by show 0 + ms ≤ ms; omega⟩ (fun E hp1 hE => ?_) (fun r hp1 hr => ?_)
  · rcases hx E hp1 hE with rfl | rfl
    · refine ⟨12, ⟨[], (0, 9, 12, 13), [(0, 9, 15, 41)], rfl, ?_, rfl, by decide, kL_L_13, by decide +kernel, rfl⟩, g_caught_n hC rfl (by decide) ?_⟩
      · intro z hz; cases hz
      · refine g_run hC 1 rfl ?_
        exact gx_iret hC rfl rfl (Or.inr (Or.inl ⟨hE, rfl⟩)) (by show 0 + mc ≤ mc; omega) (by show 0 + ms ≤ ms; omega)
    · refine ⟨15, ⟨[(0, 9, 12, 13)], (0, 9, 15, 41), [], rfl, ?_, rfl, by decide, kL_L_41, by decide +kernel, rfl⟩, g_caught_n hC rfl (by decide) ?_⟩
      · intro z hz
        obtain rfl := List.mem_singleton.mp hz
        exact ⟨by decide, _, kL_L_13, by decide +kernel⟩
      · refine g_run hC 1 rfl ?_
        exact gx_iret hC rfl rfl (Or.inr (Or.inr (⟨hE, rfl⟩))) (by show 0 + mc ≤ mc; omega) (by show 0 + ms ≤ ms; omega)
  · obtain ⟨v, f, rfl, h65⟩ := ho r hp1 hr
    refine g_run hC 1 rfl ?_
    refine g_lst hC 0 rfl (hW.2 65 (by decide)) h65 rfl (by decide) (by decide) ?_
    refine g_run hC 2 rfl ?_
    exact gx_iret hC rfl rfl (Or.inl ⟨v, hp1, f, hr, h65, rfl, rfl⟩) (by show 0 + mc ≤ mc; omega) (by show 0 + ms ≤ ms; omega)
theorem c_L_monomial (hW : KF ad L) {x0 x1 : Int32} (h0 : hp 0 = kO 2 fs) (hM : KX l yX2_monomial cX2_monomial 4 (some .int) (rmK d mc ms) D dA ad sa L [.ref 0, .int x0, .int x1] hp post px) (ho : ∀ r hp', post r hp' → ∃ (v : Int32) (f : Nat → Int64), r = some (.int v) ∧ hp' 65 = kJ 1 f) (hx : ∀ E hp', px E hp' → E = ISE ∨ E = IOB) : KH l yL_monomial cL_monomial 5 [(0, 10, 13, 13), (0, 10, 17, 41)] (rmK (d + 1) mc ms) D dA ad sa L [.ref 0, .int x0, .int x1, .ref 65] hp (fun r hp' => (∃ (v : Int32) (hp1 : Nat → KE) (f : Nat → Int64), post (some (.int v)) hp1 ∧ hp1 65 = kJ 1 f ∧ r = some (.int 0) ∧ hp' = va_up hp1 65 (kJ 1 (va_up f 0 v.toInt64))) ∨ (px ISE hp' ∧ r = some (.int 1)) ∨ (px IOB hp' ∧ r = some (.int 2))) := by
  refine KH.of rfl ok_L_monomial (len_of rfl) hW.1.1 hW.1.2 ?_
  intro p e s m args below meth c A hC hN hNC htab
  refine g_run hC 5 rfl ?_
  refine g_callVH hC hN hNC htab [.int x0, .int x1] hM rfl M_L_43 (hW.2 0 (by decide)) h0 rfl rfl (len_of rfl) ⟨Nat.le_refl _, by show 8 + (4 + 11) + 40 * d ≤ 40 * (d + 1); omega⟩ ⟨by show 0 + mc ≤ mc; omega, by show 0 + ms ≤ ms; omega⟩ (fun E hp1 hE => ?_) (fun r hp1 hr => ?_)
  · rcases hx E hp1 hE with rfl | rfl
    · refine ⟨13, ⟨[], (0, 10, 13, 13), [(0, 10, 17, 41)], rfl, ?_, rfl, by decide, kL_L_13, by decide +kernel, rfl⟩, g_caught hC rfl (by decide) ?_⟩
      · intro z hz; cases hz
      · refine g_run hC 1 rfl ?_
        exact gx_iret hC rfl rfl (Or.inr (Or.inl ⟨hE, rfl⟩)) (by show 0 + mc ≤ mc; omega) (by show 0 + ms ≤ ms; omega)
    · refine ⟨17, ⟨[(0, 10, 13, 13)], (0, 10, 17, 41), [], rfl, ?_, rfl, by decide, kL_L_41, by decide +kernel, rfl⟩, g_caught hC rfl (by decide) ?_⟩
      · intro z hz
        obtain rfl := List.mem_singleton.mp hz
        exact ⟨by decide, _, kL_L_13, by decide +kernel⟩
      · refine g_run hC 1 rfl ?_
        exact gx_iret hC rfl rfl (Or.inr (Or.inr (⟨hE, rfl⟩))) (by show 0 + mc ≤ mc; omega) (by show 0 + ms ≤ ms; omega)
  · obtain ⟨v, f, rfl, h65⟩ := ho r hp1 hr
    refine g_run hC 1 rfl ?_
    refine g_lst hC 0 rfl (hW.2 65 (by decide)) h65 rfl (by decide) (by decide) ?_
    refine g_run hC 2 rfl ?_
    exact gx_iret hC rfl rfl (Or.inl ⟨v, hp1, f, hr, h65, rfl, rfl⟩) (by show 0 + mc ≤ mc; omega) (by show 0 + ms ≤ ms; omega)
theorem c_L_coefficient (hW : KF ad L) {x0 x1 : Int32} (h0 : hp 0 = kO 2 fs) (hM : KX l yX2_coefficient cX2_coefficient 4 (some .long) (rmK d mc ms) D dA ad sa L [.ref 0, .int x0, .int x1] hp post px) (ho : ∀ r hp', post r hp' → ∃ (v : Int64) (f : Nat → Int64), r = some (.long v) ∧ hp' 65 = kJ 1 f) (hx : ∀ E hp', px E hp' → E = ISE ∨ E = IOB) : KH l yL_coefficient cL_coefficient 5 [(0, 9, 12, 13), (0, 9, 16, 41)] (rmK (d + 1) mc ms) D dA ad sa L [.ref 0, .int x0, .int x1, .ref 65] hp (fun r hp' => (∃ (v : Int64) (hp1 : Nat → KE) (f : Nat → Int64), post (some (.long v)) hp1 ∧ hp1 65 = kJ 1 f ∧ r = some (.int 0) ∧ hp' = va_up hp1 65 (kJ 1 (va_up f 0 v))) ∨ (px ISE hp' ∧ r = some (.int 1)) ∨ (px IOB hp' ∧ r = some (.int 2))) := by
  refine KH.of rfl ok_L_coefficient (len_of rfl) hW.1.1 hW.1.2 ?_
  intro p e s m args below meth c A hC hN hNC htab
  refine g_run hC 5 rfl ?_
  refine g_callVH hC hN hNC htab [.int x0, .int x1] hM rfl M_L_46 (hW.2 0 (by decide)) h0 rfl rfl (len_of rfl) ⟨Nat.le_refl _, by show 8 + (4 + 11) + 40 * d ≤ 40 * (d + 1); omega⟩ ⟨by show 0 + mc ≤ mc; omega, by show 0 + ms ≤ ms; omega⟩ (fun E hp1 hE => ?_) (fun r hp1 hr => ?_)
  · rcases hx E hp1 hE with rfl | rfl
    · refine ⟨12, ⟨[], (0, 9, 12, 13), [(0, 9, 16, 41)], rfl, ?_, rfl, by decide, kL_L_13, by decide +kernel, rfl⟩, g_caught hC rfl (by decide) ?_⟩
      · intro z hz; cases hz
      · refine g_run hC 1 rfl ?_
        exact gx_iret hC rfl rfl (Or.inr (Or.inl ⟨hE, rfl⟩)) (by show 0 + mc ≤ mc; omega) (by show 0 + ms ≤ ms; omega)
    · refine ⟨16, ⟨[(0, 9, 12, 13)], (0, 9, 16, 41), [], rfl, ?_, rfl, by decide, kL_L_41, by decide +kernel, rfl⟩, g_caught hC rfl (by decide) ?_⟩
      · intro z hz
        obtain rfl := List.mem_singleton.mp hz
        exact ⟨by decide, _, kL_L_13, by decide +kernel⟩
      · refine g_run hC 1 rfl ?_
        exact gx_iret hC rfl rfl (Or.inr (Or.inr (⟨hE, rfl⟩))) (by show 0 + mc ≤ mc; omega) (by show 0 + ms ≤ ms; omega)
  · obtain ⟨v, f, rfl, h65⟩ := ho r hp1 hr
    refine g_lst hC 0 rfl (hW.2 65 (by decide)) h65 rfl (by decide) (by decide) ?_
    refine g_run hC 2 rfl ?_
    exact gx_iret hC rfl rfl (Or.inl ⟨v, hp1, f, hr, h65, rfl, rfl⟩) (by show 0 + mc ≤ mc; omega) (by show 0 + ms ≤ ms; omega)
theorem c_L_spoil (hW : KF ad L) {x0 x1 x2 : Int32} (h0 : hp 0 = kO 2 fs) (hM : KX l yX2_spoil cX2_spoil 6 (some .long) (rmK d mc ms) D dA ad sa L [.ref 0, .int x0, .int x1, .int x2] hp post px) (ho : ∀ r hp', post r hp' → ∃ (v : Int64) (f : Nat → Int64), r = some (.long v) ∧ hp' 65 = kJ 1 f) (hx : ∀ E hp', px E hp' → E = ISE ∨ E = IOB ∨ E = AEX) : KH l yL_spoil cL_spoil 6 [(0, 11, 14, 13), (0, 11, 18, 41), (0, 11, 22, 36)] (rmK (d + 1) mc ms) D dA ad sa L [.ref 0, .int x0, .int x1, .int x2, .ref 65] hp (fun r hp' => (∃ (v : Int64) (hp1 : Nat → KE) (f : Nat → Int64), post (some (.long v)) hp1 ∧ hp1 65 = kJ 1 f ∧ r = some (.int 0) ∧ hp' = va_up hp1 65 (kJ 1 (va_up f 0 v))) ∨ (px ISE hp' ∧ r = some (.int 1)) ∨ (px IOB hp' ∧ r = some (.int 2)) ∨ (px AEX hp' ∧ r = some (.int 3))) := by
  refine KH.of rfl ok_L_spoil (len_of rfl) hW.1.1 hW.1.2 ?_
  intro p e s m args below meth c A hC hN hNC htab
  refine g_run hC 6 rfl ?_
  refine g_callVH hC hN hNC htab [.int x0, .int x1, .int x2] hM rfl M_L_50 (hW.2 0 (by decide)) h0 rfl rfl (len_of rfl) ⟨Nat.le_refl _, by show 8 + (6 + 11) + 40 * d ≤ 40 * (d + 1); omega⟩ ⟨by show 0 + mc ≤ mc; omega, by show 0 + ms ≤ ms; omega⟩ (fun E hp1 hE => ?_) (fun r hp1 hr => ?_)
  · rcases hx E hp1 hE with rfl | rfl | rfl
    · refine ⟨14, ⟨[], (0, 11, 14, 13), [(0, 11, 18, 41), (0, 11, 22, 36)], rfl, ?_, rfl, by decide, kL_L_13, by decide +kernel, rfl⟩, g_caught hC rfl (by decide) ?_⟩
      · intro z hz; cases hz
      · refine g_run hC 1 rfl ?_
        exact gx_iret hC rfl rfl (Or.inr (Or.inl ⟨hE, rfl⟩)) (by show 0 + mc ≤ mc; omega) (by show 0 + ms ≤ ms; omega)
    · refine ⟨18, ⟨[(0, 11, 14, 13)], (0, 11, 18, 41), [(0, 11, 22, 36)], rfl, ?_, rfl, by decide, kL_L_41, by decide +kernel, rfl⟩, g_caught hC rfl (by decide) ?_⟩
      · intro z hz
        obtain rfl := List.mem_singleton.mp hz
        exact ⟨by decide, _, kL_L_13, by decide +kernel⟩
      · refine g_run hC 1 rfl ?_
        exact gx_iret hC rfl rfl (Or.inr (Or.inr (Or.inl ⟨hE, rfl⟩))) (by show 0 + mc ≤ mc; omega) (by show 0 + ms ≤ ms; omega)
    · refine ⟨22, ⟨[(0, 11, 14, 13), (0, 11, 18, 41)], (0, 11, 22, 36), [], rfl, ?_, rfl, by decide, kL_L_36, by decide +kernel, rfl⟩, g_caught hC rfl (by decide) ?_⟩
      · intro z hz
        rcases List.mem_cons.mp hz with rfl | hz
        · exact ⟨by decide, _, kL_L_13, by decide +kernel⟩
        obtain rfl := List.mem_singleton.mp hz
        exact ⟨by decide, _, kL_L_41, by decide +kernel⟩
      · refine g_run hC 1 rfl ?_
        exact gx_iret hC rfl rfl (Or.inr (Or.inr (Or.inr (⟨hE, rfl⟩)))) (by show 0 + mc ≤ mc; omega) (by show 0 + ms ≤ ms; omega)
  · obtain ⟨v, f, rfl, h65⟩ := ho r hp1 hr
    refine g_lst hC 0 rfl (hW.2 65 (by decide)) h65 rfl (by decide) (by decide) ?_
    refine g_run hC 2 rfl ?_
    exact gx_iret hC rfl rfl (Or.inl ⟨v, hp1, f, hr, h65, rfl, rfl⟩) (by show 0 + mc ≤ mc; omega) (by show 0 + ms ≤ ms; omega)
theorem c_L_check (hW : KF ad L) (h0 : hp 0 = kO 2 fs) (hM : KX l yX2_check cX2_check 3 (some .int) (rmK d mc ms) D dA ad sa L [.ref 0] hp post px) (ho : ∀ r hp', post r hp' → ∃ (v : Int32) (f : Nat → Int64), r = some (.int v) ∧ hp' 65 = kJ 1 f) (hx : ∀ E hp', px E hp' → E = ISE) : KH l yL_check cL_check 3 [(0, 8, 11, 13)] (rmK (d + 1) mc ms) D dA ad sa L [.ref 0, .ref 65] hp (fun r hp' => (∃ (v : Int32) (hp1 : Nat → KE) (f : Nat → Int64), post (some (.int v)) hp1 ∧ hp1 65 = kJ 1 f ∧ r = some (.int 0) ∧ hp' = va_up hp1 65 (kJ 1 (va_up f 0 v.toInt64))) ∨ (px ISE hp' ∧ r = some (.int 1))) := by
  refine KH.of rfl ok_L_check (len_of rfl) hW.1.1 hW.1.2 ?_
  intro p e s m args below meth c A hC hN hNC htab
  refine g_run hC 3 rfl ?_
  refine g_callVH hC hN hNC htab [] hM rfl M_L_54 (hW.2 0 (by decide)) h0 rfl rfl (len_of rfl) ⟨Nat.le_refl _, by show 8 + (3 + 11) + 40 * d ≤ 40 * (d + 1); omega⟩ ⟨by show 0 + mc ≤ mc; omega, by show 0 + ms ≤ ms; omega⟩ (fun E hp1 hE => ?_) (fun r hp1 hr => ?_)
  · obtain rfl := hx E hp1 hE
    refine ⟨11, ⟨[], (0, 8, 11, 13), [], rfl, ?_, rfl, by decide, kL_L_13, by decide +kernel, rfl⟩, g_caught_n hC rfl (by decide) ?_⟩
    · intro z hz; cases hz
    · refine g_run hC 1 rfl ?_
      exact gx_iret hC rfl rfl (Or.inr (⟨hE, rfl⟩)) (by show 0 + mc ≤ mc; omega) (by show 0 + ms ≤ ms; omega)
  · obtain ⟨v, f, rfl, h65⟩ := ho r hp1 hr
    refine g_run hC 1 rfl ?_
    refine g_lst hC 0 rfl (hW.2 65 (by decide)) h65 rfl (by decide) (by decide) ?_
    refine g_run hC 2 rfl ?_
    exact gx_iret hC rfl rfl (Or.inl ⟨v, hp1, f, hr, h65, rfl, rfl⟩) (by show 0 + mc ≤ mc; omega) (by show 0 + ms ≤ ms; omega)
theorem c_L_witness (hW : KF ad L) (h0 : hp 0 = kO 2 fs) (hM : KX l yX2_witness cX2_witness 2 (some .int) (rmK d mc ms) D dA ad sa L [.ref 0] hp post px) (ho : ∀ r hp', post r hp' → ∃ (v : Int32) (f : Nat → Int64), r = some (.int v) ∧ hp' 65 = kJ 1 f) (hx : ∀ E hp', px E hp' → E = ISE ∨ E = NSE) : KH l yL_witness cL_witness 3 [(0, 8, 11, 13), (0, 8, 14, 60)] (rmK (d + 1) mc ms) D dA ad sa L [.ref 0, .ref 65] hp (fun r hp' => (∃ (v : Int32) (hp1 : Nat → KE) (f : Nat → Int64), post (some (.int v)) hp1 ∧ hp1 65 = kJ 1 f ∧ r = some (.int 0) ∧ hp' = va_up hp1 65 (kJ 1 (va_up f 0 v.toInt64))) ∨ (px ISE hp' ∧ r = some (.int 1)) ∨ (px NSE hp' ∧ r = some (.int 2))) := by
  refine KH.of rfl ok_L_witness (len_of rfl) hW.1.1 hW.1.2 ?_
  intro p e s m args below meth c A hC hN hNC htab
  refine g_run hC 3 rfl ?_
  refine g_callVH hC hN hNC htab [] hM rfl M_L_57 (hW.2 0 (by decide)) h0 rfl rfl (len_of rfl) ⟨Nat.le_refl _, by show 8 + (2 + 11) + 40 * d ≤ 40 * (d + 1); omega⟩ ⟨by show 0 + mc ≤ mc; omega, by show 0 + ms ≤ ms; omega⟩ (fun E hp1 hE => ?_) (fun r hp1 hr => ?_)
  · rcases hx E hp1 hE with rfl | rfl
    · refine ⟨11, ⟨[], (0, 8, 11, 13), [(0, 8, 14, 60)], rfl, ?_, rfl, by decide, kL_L_13, by decide +kernel, rfl⟩, g_caught_n hC rfl (by decide) ?_⟩
      · intro z hz; cases hz
      · refine g_run hC 1 rfl ?_
        exact gx_iret hC rfl rfl (Or.inr (Or.inl ⟨hE, rfl⟩)) (by show 0 + mc ≤ mc; omega) (by show 0 + ms ≤ ms; omega)
    · refine ⟨14, ⟨[(0, 8, 11, 13)], (0, 8, 14, 60), [], rfl, ?_, rfl, by decide, kL_L_60, by decide +kernel, rfl⟩, g_caught_n hC rfl (by decide) ?_⟩
      · intro z hz
        obtain rfl := List.mem_singleton.mp hz
        exact ⟨by decide, _, kL_L_13, by decide +kernel⟩
      · refine g_run hC 1 rfl ?_
        exact gx_iret hC rfl rfl (Or.inr (Or.inr (⟨hE, rfl⟩))) (by show 0 + mc ≤ mc; omega) (by show 0 + ms ≤ ms; omega)
  · obtain ⟨v, f, rfl, h65⟩ := ho r hp1 hr
    refine g_run hC 1 rfl ?_
    refine g_lst hC 0 rfl (hW.2 65 (by decide)) h65 rfl (by decide) (by decide) ?_
    refine g_run hC 2 rfl ?_
    exact gx_iret hC rfl rfl (Or.inl ⟨v, hp1, f, hr, h65, rfl, rfl⟩) (by show 0 + mc ≤ mc; omega) (by show 0 + ms ≤ ms; omega)
end
