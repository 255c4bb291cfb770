theorem nI_iq {a b : Nat} (h : nI a = nI b) (ha : a < 2 ^ 31) (hb : b < 2 ^ 31) : a = b := by
  have h1 := congrArg Int32.toInt h
  rw [nI_toInt ha, nI_toInt hb] at h1
  omega
theorem i64_z {z : Int32} (h : z.toInt64 = 0) : z = 0 := by
  have h1 := congrArg Int64.toInt h
  rw [Int32.toInt_toInt64] at h1
  exact Int32.toInt_inj.mp h1
theorem lack_ok {li k : Nat} {x : Int32} (hl : li ≤ 10) (hk : k < li) (hx : x = nI k) : lackN li x = 0 := by
  unfold lackN
  rw [if_neg (by omega), if_pos ((lineB_iff hl).mpr ⟨k, hk, hx⟩)]
theorem lack_1 {li : Nat} {x : Int32} (h : li = 0) : lackN li x = 1 := if_pos h
theorem lack_2 {li : Nat} {x : Int32} (h : ¬ li = 0 ∧ lineB li x = false) : lackN li x = 2 := by
  unfold lackN
  rw [if_neg h.1, h.2]
  rfl
theorem lineX_ISE {li : Nat} {x : Int32} (h : lineX li x ISE) : li = 0 := by
  rcases h with ⟨h, -⟩ | ⟨-, -, h⟩
  · exact h
  · exact absurd h (by decide +kernel)
theorem lineX_IOB {li : Nat} {x : Int32} (h : lineX li x IOB) : ¬ li = 0 ∧ lineB li x = false := by
  rcases h with ⟨-, h⟩ | ⟨h, h2, -⟩
  · exact absurd h (by decide +kernel)
  · exact ⟨h, h2⟩
theorem lineX_AEX {li : Nat} {x : Int32} (h : lineX li x AEX) : False := by
  rcases h with ⟨-, h⟩ | ⟨-, -, h⟩
  · exact absurd h (by decide +kernel)
  · exact absurd h (by decide +kernel)
theorem vsN_supp {f : Nat → Int64} {n p : Nat} (hf : supp f n) : ∀ {N : Nat}, 2 ^ n ≤ N → vsN f p N = vsN f p (2 ^ n)
  | 0, h => by rw [Nat.le_zero.mp h]
  | N + 1, h => by
    by_cases e : 2 ^ n = N + 1
    · rw [e]
    · simp only [vsN]
      rw [hf N (by omega), Int64.add_zero, ite_self]
      exact vsN_supp hf (by omega)
section
variable {hp : Nat → KE} {n inp an li th : Nat} {cl ex f0 : Nat → Int64} {pr : Nat → Nat → Int64} {gt : Nat → GT} {ki fi se tr : Nat → Int32} {si st : Nat → Nat} {nu wo fr : Nat → Int64}
theorem t_input (h : XR hp n inp an li cl ex pr gt) (hm : MR hp th n an li ki fi se tr cl si st nu wo fr) (h65 : hp 65 = kJ 1 f0) (hB : BI n inp an li cl pr gt ki fi se tr si st nu) {r1 : Option Value} {hpw : Nat → KE} (hw : (∃ (v : Int32) (hp1 : Nat → KE) (f : Nat → Int64), (fun (r : Option Value) (hp' : Nat → KE) => n < 9 ∧ r = some (.int (nI (n + 1))) ∧ XR hp' (n + 1) (inp ||| 2 ^ n) an 0 cl ex pr gt ∧ FX hp hp') (some (.int v)) hp1 ∧ hp1 65 = kJ 1 f ∧ r1 = some (.int 0) ∧ hpw = va_up hp1 65 (kJ 1 (va_up f 0 v.toInt64))) ∨ ((fun (E : String) (hp' : Nat → KE) => n = 9 ∧ E = ISE ∧ hp' = hp) ISE hpw ∧ r1 = some (.int 1))) : ∃ kc, kc ≤ 3 ∧ r1 = some (.int (nI kc)) ∧ MR hpw th n an li ki fi se tr cl si st nu wo fr ∧ ∀ (r2 : Option Value) (hp2 : Nat → KE), (let hp := hpw; (fun (r : Option Value) (hp' : Nat → KE) => ((n = 9 ∧ (∃ v, r = some (.int v)) ∧ MR hp' 1 n an li ki fi se tr cl si st nu wo fr) ∨ (n < 9 ∧ r = some (.int (nI (n + 1))) ∧ MR hp' 0 (n + 1) an 0 (va_up ki (n + 1) (cI (-1))) fi se tr cl si st nu wo fr)) ∧ FM hp hp') r2 hp2) → ∃ v : Int32, r2 = some (.int v) ∧ FIN kc v.toInt64 hp2 := by
  rcases hw with ⟨v, hpa, f, ⟨hn, hv, hX, hF⟩, hf, rfl, rfl⟩ | ⟨⟨h9, -, rfl⟩, rfl⟩
  · cases hv
    refine ⟨0, by decide, rfl, (hm.fx hF).out, ?_⟩
    rintro r2 hp2 ⟨⟨h9, -, -⟩ | ⟨-, rfl, hM⟩, hFM⟩
    · omega
    · exact ⟨_, rfl, mkfin (hX.out.fm hFM) hM (hFM.o65 (va_up_self _ _ _)) (hB.input hn) (fun _ => va_up_self _ _ _)⟩
  · refine ⟨1, by decide, rfl, hm, ?_⟩
    rintro r2 hp2 ⟨⟨-, ⟨v, rfl⟩, hM⟩ | ⟨h8, -, -⟩, hFM⟩
    · exact ⟨_, rfl, mkfin (h.fm hFM) hM (hFM.o65 h65) hB (fun z => absurd z (by decide))⟩
    · omega
theorem t_gate {x a b d : Int32} (h : XR hp n inp an li cl ex pr gt) (hm : MR hp th n an li ki fi se tr cl si st nu wo fr) (h65 : hp 65 = kJ 1 f0) (hB : BI n inp an li cl pr gt ki fi se tr si st nu) {r1 : Option Value} {hpw : Nat → KE} (hw : (∃ (v : Int32) (hp1 : Nat → KE) (f : Nat → Int64), (fun (r : Option Value) (hp' : Nat → KE) => gateB n x a b d = true ∧ n < 9 ∧ r = some (.int (nI (n + 1))) ∧ ∃ k a1 b1 c1, k < 4 ∧ a1 < 2 * n + 2 ∧ b1 < 2 * n + 2 ∧ c1 < 2 * n + 2 ∧ x = nI k ∧ a = nI a1 ∧ b = nI b1 ∧ (2 ≤ k → d = nI c1) ∧ XR hp' (n + 1) inp an 0 cl ex pr (va_up gt n (k, a1, b1, c1, gV a1 b1 c1, gT k a1 b1 c1)) ∧ FX hp hp') (some (.int v)) hp1 ∧ hp1 65 = kJ 1 f ∧ r1 = some (.int 0) ∧ hpw = va_up hp1 65 (kJ 1 (va_up f 0 v.toInt64))) ∨ ((fun (E : String) (hp' : Nat → KE) => ((gateB n x a b d = false ∧ E = IAE) ∨ (gateB n x a b d = true ∧ n = 9 ∧ E = ISE)) ∧ hp' = hp) IAE hpw ∧ r1 = some (.int 1)) ∨ ((fun (E : String) (hp' : Nat → KE) => ((gateB n x a b d = false ∧ E = IAE) ∨ (gateB n x a b d = true ∧ n = 9 ∧ E = ISE)) ∧ hp' = hp) ISE hpw ∧ r1 = some (.int 2))) : ∃ kc, kc ≤ 3 ∧ r1 = some (.int (nI kc)) ∧ MR hpw th n an li ki fi se tr cl si st nu wo fr ∧ ∀ (r2 : Option Value) (hp2 : Nat → KE), (let hp := hpw; (fun (r : Option Value) (hp' : Nat → KE) => ((gateB n x a b d = false ∧ (∃ v, r = some (.int v)) ∧ MR hp' 1 n an li ki fi se tr cl si st nu wo fr) ∨ (gateB n x a b d = true ∧ n = 9 ∧ (∃ v, r = some (.int v)) ∧ MR hp' 2 n an li ki fi se tr cl si st nu wo fr) ∨ (gateB n x a b d = true ∧ n < 9 ∧ r = some (.int (nI (n + 1))) ∧ MR hp' 0 (n + 1) an 0 (va_up ki (n + 1) x) (va_up fi (n + 1) a) (va_up se (n + 1) b) (va_up tr (n + 1) d) cl si st nu wo fr)) ∧ FM hp hp') r2 hp2) → ∃ v : Int32, r2 = some (.int v) ∧ FIN kc v.toInt64 hp2 := by
  rcases hw with ⟨v, hpa, f, ⟨hg, hn, hv, k, a1, b1, c1, hk, ha1, hb1, hc1, ex9, ea, eb, ed, hX, hF⟩, hf, rfl, rfl⟩ | ⟨⟨hc, rfl⟩, rfl⟩ | ⟨⟨hc, rfl⟩, rfl⟩
  · cases hv
    refine ⟨0, by decide, rfl, (hm.fx hF).out, ?_⟩
    rintro r2 hp2 ⟨⟨h9, -, -⟩ | ⟨-, h9, -, -⟩ | ⟨-, -, rfl, hM⟩, hFM⟩
    · rw [hg] at h9; cases h9
    · omega
    · exact ⟨_, rfl, mkfin (hX.out.fm hFM) hM (hFM.o65 (va_up_self _ _ _)) (hB.gate hn hk ha1 hb1 hc1 ex9 ea eb ed) (fun _ => va_up_self _ _ _)⟩
  · have hc1 : gateB n x a b d = false := by
      rcases hc with ⟨q, -⟩ | ⟨-, -, q⟩
      · exact q
      · exact absurd q (by decide +kernel)
    refine ⟨1, by decide, rfl, hm, ?_⟩
    rintro r2 hp2 ⟨⟨-, ⟨v, rfl⟩, hM⟩ | ⟨h9, -⟩ | ⟨h9, -⟩, hFM⟩
    · exact ⟨_, rfl, mkfin (h.fm hFM) hM (hFM.o65 h65) hB (fun z => absurd z (by decide))⟩
    · rw [hc1] at h9; cases h9
    · rw [hc1] at h9; cases h9
  · obtain ⟨hc1, hc2⟩ : gateB n x a b d = true ∧ n = 9 := by
      rcases hc with ⟨-, q⟩ | ⟨q, q2, -⟩
      · exact absurd q (by decide +kernel)
      · exact ⟨q, q2⟩
    refine ⟨2, by decide, rfl, hm, ?_⟩
    rintro r2 hp2 ⟨⟨h9, -⟩ | ⟨-, -, ⟨v, rfl⟩, hM⟩ | ⟨-, h9, -⟩, hFM⟩
    · rw [hc1] at h9; cases h9
    · exact ⟨_, rfl, mkfin (h.fm hFM) hM (hFM.o65 h65) hB (fun z => absurd z (by decide))⟩
    · omega
theorem t_add {x y : Int32} (h : XR hp n inp an li cl ex pr gt) (hm : MR hp th n an li ki fi se tr cl si st nu wo fr) (h65 : hp 65 = kJ 1 f0) (hB : BI n inp an li cl pr gt ki fi se tr si st nu) {r1 : Option Value} {hpw : Nat → KE} (hw : (∃ (v : Int32) (hp1 : Nat → KE) (f : Nat → Int64), (fun (r : Option Value) (hp' : Nat → KE) => ∃ k, k < 2 ^ n ∧ x = nI k ∧ an < 40 ∧ r = some (.int (nI (an + 1))) ∧ XR hp' n inp (an + 1) 0 (inc cl k y.toInt64) ex pr gt ∧ FX hp hp') (some (.int v)) hp1 ∧ hp1 65 = kJ 1 f ∧ r1 = some (.int 0) ∧ hpw = va_up hp1 65 (kJ 1 (va_up f 0 v.toInt64))) ∨ ((fun (E : String) (hp' : Nat → KE) => ((setB n x = false ∧ E = IAE) ∨ (setB n x = true ∧ an = 40 ∧ E = ISE)) ∧ hp' = hp) IAE hpw ∧ r1 = some (.int 1)) ∨ ((fun (E : String) (hp' : Nat → KE) => ((setB n x = false ∧ E = IAE) ∨ (setB n x = true ∧ an = 40 ∧ E = ISE)) ∧ hp' = hp) ISE hpw ∧ r1 = some (.int 2))) : ∃ kc, kc ≤ 3 ∧ r1 = some (.int (nI kc)) ∧ MR hpw th n an li ki fi se tr cl si st nu wo fr ∧ ∀ (r2 : Option Value) (hp2 : Nat → KE), (let hp := hpw; (fun (r : Option Value) (hp' : Nat → KE) => ((setB n x = false ∧ (∃ v, r = some (.int v)) ∧ MR hp' 1 n an li ki fi se tr cl si st nu wo fr) ∨ (setB n x = true ∧ an = 40 ∧ (∃ v, r = some (.int v)) ∧ MR hp' 2 n an li ki fi se tr cl si st nu wo fr) ∨ (∃ k, k < 2 ^ n ∧ x = nI k ∧ an < 40 ∧ r = some (.int (nI (an + 1))) ∧ MR hp' 0 n (an + 1) 0 ki fi se tr (inc cl k y.toInt64) si st nu wo fr)) ∧ FM hp hp') r2 hp2) → ∃ v : Int32, r2 = some (.int v) ∧ FIN kc v.toInt64 hp2 := by
  have hn9 := hB.1.1
  rcases hw with ⟨v, hpa, f, ⟨k, hk, rfl, han, hv, hX, hF⟩, hf, rfl, rfl⟩ | ⟨⟨hc, rfl⟩, rfl⟩ | ⟨⟨hc, rfl⟩, rfl⟩
  · cases hv
    refine ⟨0, by decide, rfl, (hm.fx hF).out, ?_⟩
    have hs : setB n (nI k) = true := (setB_iff hn9).mpr ⟨k, hk, rfl⟩
    rintro r2 hp2 ⟨⟨h9, -, -⟩ | ⟨-, h9, -, -⟩ | ⟨k2, hk2, e2, -, rfl, hM⟩, hFM⟩
    · rw [hs] at h9; cases h9
    · omega
    · have h5 := p2_lt hn9
      obtain rfl := nI_iq e2 (by omega) (by omega)
      exact ⟨_, rfl, mkfin (hX.out.fm hFM) hM (hFM.o65 (va_up_self _ _ _)) (hB.add hk han) (fun _ => va_up_self _ _ _)⟩
  · have hc1 : setB n x = false := by
      rcases hc with ⟨q, -⟩ | ⟨-, -, q⟩
      · exact q
      · exact absurd q (by decide +kernel)
    refine ⟨1, by decide, rfl, hm, ?_⟩
    rintro r2 hp2 ⟨⟨-, ⟨v, rfl⟩, hM⟩ | ⟨h9, -⟩ | ⟨k, hk, e, -⟩, hFM⟩
    · exact ⟨_, rfl, mkfin (h.fm hFM) hM (hFM.o65 h65) hB (fun z => absurd z (by decide))⟩
    · rw [hc1] at h9; cases h9
    · rw [(setB_iff hn9).mpr ⟨k, hk, e⟩] at hc1; cases hc1
  · obtain ⟨hc1, hc2⟩ : setB n x = true ∧ an = 40 := by
      rcases hc with ⟨-, q⟩ | ⟨q, q2, -⟩
      · exact absurd q (by decide +kernel)
      · exact ⟨q, q2⟩
    refine ⟨2, by decide, rfl, hm, ?_⟩
    rintro r2 hp2 ⟨⟨h9, -⟩ | ⟨-, -, ⟨v, rfl⟩, hM⟩ | ⟨k, hk, e, h9, -⟩, hFM⟩
    · rw [hc1] at h9; cases h9
    · exact ⟨_, rfl, mkfin (h.fm hFM) hM (hFM.o65 h65) hB (fun z => absurd z (by decide))⟩
    · omega
theorem t_simulate {x : Int32} (h : XR hp n inp an li cl ex pr gt) (hm : MR hp th n an li ki fi se tr cl si st nu wo fr) (h65 : hp 65 = kJ 1 f0) (hB : BI n inp an li cl pr gt ki fi se tr si st nu) {r1 : Option Value} {hpw : Nat → KE} (hw : (∃ (v : Int32) (hp1 : Nat → KE) (f : Nat → Int64), (fun (r : Option Value) (hp' : Nat → KE) => ∃ o, o < 512 ∧ o &&& inp = o ∧ x = nI o ∧ r = some (.int (nI (simN inp gt o n))) ∧ hp' = hp) (some (.int v)) hp1 ∧ hp1 65 = kJ 1 f ∧ r1 = some (.int 0) ∧ hpw = va_up hp1 65 (kJ 1 (va_up f 0 v.toInt64))) ∨ ((fun (E : String) (hp' : Nat → KE) => ¬ (∃ o, o < 512 ∧ o &&& inp = o ∧ x = nI o) ∧ E = IAE ∧ hp' = hp) IAE hpw ∧ r1 = some (.int 1))) : ∃ kc, kc ≤ 3 ∧ r1 = some (.int (nI kc)) ∧ MR hpw th n an li ki fi se tr cl si st nu wo fr ∧ ∀ (r2 : Option Value) (hp2 : Nat → KE), (let hp := hpw; (fun (r : Option Value) (hp' : Nat → KE) => ((∃ o, o < 512 ∧ o &&& inp = o ∧ x = nI o ∧ r = some (.int (nI (simN inp gt o n))) ∧ MR hp' 0 n an li ki fi se tr cl si st nu wo fr) ∨ (¬ inpOK inp x ∧ (∃ v, r = some (.int v)) ∧ MR hp' 1 n an li ki fi se tr cl si st nu wo fr)) ∧ FM hp hp') r2 hp2) → ∃ v : Int32, r2 = some (.int v) ∧ FIN kc v.toInt64 hp2 := by
  rcases hw with ⟨v, hpa, f, ⟨o, ho, hoi, rfl, hv, rfl⟩, hf, rfl, rfl⟩ | ⟨⟨hno, -, rfl⟩, rfl⟩
  · cases hv
    refine ⟨0, by decide, rfl, hm.out, ?_⟩
    rintro r2 hp2 ⟨⟨o2, ho2, hoi2, e2, rfl, hM⟩ | ⟨h9, -⟩, hFM⟩
    · obtain rfl := nI_iq e2 (by omega) (by omega)
      exact ⟨_, rfl, mkfin (h.out.fm hFM) hM (hFM.o65 (va_up_self _ _ _)) hB (fun _ => va_up_self _ _ _)⟩
    · exact absurd ⟨o, ho, hoi, rfl⟩ h9
  · refine ⟨1, by decide, rfl, hm, ?_⟩
    rintro r2 hp2 ⟨⟨o2, ho2, hoi2, e2, -⟩ | ⟨-, ⟨v, rfl⟩, hM⟩, hFM⟩
    · exact absurd ⟨o2, ho2, hoi2, e2⟩ hno
    · exact ⟨_, rfl, mkfin (h.fm hFM) hM (hFM.o65 h65) hB (fun z => absurd z (by decide))⟩
theorem t_evaluate {x : Int32} (h : XR hp n inp an li cl ex pr gt) (hm : MR hp th n an li ki fi se tr cl si st nu wo fr) (h65 : hp 65 = kJ 1 f0) (hB : BI n inp an li cl pr gt ki fi se tr si st nu) {r1 : Option Value} {hpw : Nat → KE} (hw : (∃ (v : Int64) (hp1 : Nat → KE) (f : Nat → Int64), (fun (r : Option Value) (hp' : Nat → KE) => ∃ o, o < 512 ∧ o &&& inp = o ∧ x = nI o ∧ r = some (.long (vsN cl (simN inp gt o n) 512)) ∧ hp' = hp) (some (.long v)) hp1 ∧ hp1 65 = kJ 1 f ∧ r1 = some (.int 0) ∧ hpw = va_up hp1 65 (kJ 1 (va_up f 0 v))) ∨ ((fun (E : String) (hp' : Nat → KE) => ¬ (∃ o, o < 512 ∧ o &&& inp = o ∧ x = nI o) ∧ E = IAE ∧ hp' = hp) IAE hpw ∧ r1 = some (.int 1))) : ∃ kc, kc ≤ 3 ∧ r1 = some (.int (nI kc)) ∧ MR hpw th n an li ki fi se tr cl si st nu wo fr ∧ ∀ (r2 : Option Value) (hp2 : Nat → KE), (let hp := hpw; (fun (r : Option Value) (hp' : Nat → KE) => ((∃ o, o < 512 ∧ o &&& inp = o ∧ x = nI o ∧ r = some (.long (vsN cl (simN inp gt o n) (2 ^ n))) ∧ MR hp' 0 n an li ki fi se tr cl si st nu wo fr) ∨ (¬ inpOK inp x ∧ (∃ v, r = some (.long v)) ∧ MR hp' 1 n an li ki fi se tr cl si st nu wo fr)) ∧ FM hp hp') r2 hp2) → ∃ v : Int64, r2 = some (.long v) ∧ FIN kc v hp2 := by
  have hn9 := hB.1.1
  rcases hw with ⟨v, hpa, f, ⟨o, ho, hoi, rfl, hv, rfl⟩, hf, rfl, rfl⟩ | ⟨⟨hno, -, rfl⟩, rfl⟩
  · cases hv
    refine ⟨0, by decide, rfl, hm.out, ?_⟩
    rintro r2 hp2 ⟨⟨o2, ho2, hoi2, e2, rfl, hM⟩ | ⟨h9, -⟩, hFM⟩
    · obtain rfl := nI_iq e2 (by omega) (by omega)
      refine ⟨_, rfl, mkfin (h.out.fm hFM) hM (hFM.o65 (va_up_self _ _ _)) hB (fun _ => ?_)⟩
      rw [va_up_self]
      exact vsN_supp hB.2.2.1 (p2_lt hn9)
    · exact absurd ⟨o, ho, hoi, rfl⟩ h9
  · refine ⟨1, by decide, rfl, hm, ?_⟩
    rintro r2 hp2 ⟨⟨o2, ho2, hoi2, e2, -⟩ | ⟨-, ⟨v, rfl⟩, hM⟩, hFM⟩
    · exact absurd ⟨o2, ho2, hoi2, e2⟩ hno
    · exact ⟨_, rfl, mkfin (h.fm hFM) hM (hFM.o65 h65) hB (fun z => absurd z (by decide))⟩
theorem t_prove (h : XR hp n inp an li cl ex pr gt) (hm : MR hp th n an li ki fi se tr cl si st nu wo fr) (h65 : hp 65 = kJ 1 f0) (hB : BI n inp an li cl pr gt ki fi se tr si st nu) {r1 : Option Value} {hpw : Nat → KE} (hw : (∃ (v : Int32) (hp1 : Nat → KE) (f : Nat → Int64), (fun (r : Option Value) (hp' : Nat → KE) => ∃ last pr', prvN inp gt n 0 (va_up pr 0 cl) = (true, last, pr') ∧ last ≤ n ∧ r = some (.int (nI (cnt (pr' last)))) ∧ XR hp' n inp an (last + 1) cl ex pr' gt ∧ FX hp hp') (some (.int v)) hp1 ∧ hp1 65 = kJ 1 f ∧ r1 = some (.int 0) ∧ hpw = va_up hp1 65 (kJ 1 (va_up f 0 v.toInt64))) ∨ ((fun (E : String) (hp' : Nat → KE) => ∃ last pr', prvN inp gt n 0 (va_up pr 0 cl) = (false, last, pr') ∧ E = AEX ∧ XR hp' n inp an li cl ex pr' gt ∧ FX hp hp') AEX hpw ∧ r1 = some (.int 1))) : ∃ kc, kc ≤ 3 ∧ r1 = some (.int (nI kc)) ∧ MR hpw th n an li ki fi se tr cl si st nu wo fr ∧ ∀ (r2 : Option Value) (hp2 : Nat → KE), (let hp := hpw; (fun (r : Option Value) (hp' : Nat → KE) => (∃ t li2 si2 st2 nu2 wo2 fr2, MR hp' t n an li2 ki fi se tr cl si2 st2 nu2 wo2 fr2 ∧ ((t = 0 ∧ li2 = ngN inp n + 1 ∧ (∀ j, j ≤ ngN inp n → cnt (rwsK inp n gt cl j) ≤ 40) ∧ r = some (.int (nI (cnt (rwsK inp n gt cl (ngN inp n))))) ∧ (∀ j, j ≤ ngN inp n → LN n si2 st2 nu2 j (rwsK inp n gt cl j))) ∨ (t = 1 ∧ li2 = li ∧ si2 = si ∧ st2 = st ∧ nu2 = nu ∧ (∃ j, 0 < j ∧ j ≤ ngN inp n ∧ 40 < cnt (rwsK inp n gt cl j)) ∧ ∃ v, r = some (.int v)))) ∧ FM hp hp') r2 hp2) → ∃ v : Int32, r2 = some (.int v) ∧ FIN kc v.toInt64 hp2 := by
  have hps := fun (b : Bool) (lst : Nat) (pr2 : Nat → Nat → Int64) (e : prvN inp gt n 0 (va_up pr 0 cl) = (b, lst, pr2)) => prv_spec (inp := inp) (n := n) (gt := gt) (cl := cl) (w := n) (last := 0) (pr := va_up pr 0 cl) (fun j _ => by rw [Nat.zero_add]) (fun j hj => by obtain rfl := Nat.le_zero.mp hj; exact va_up_self _ _ _) e
  have hc0 : cnt cl ≤ 40 := Nat.le_trans hB.2.2.2.1 hB.2.2.2.2.1
  rcases hw with ⟨v, hpa, f, ⟨last, pr2, hp9, hl, hv, hX, hF⟩, hf, rfl, rfl⟩ | ⟨⟨last, pr2, hp9, -, hX, hF⟩, rfl⟩
  · cases hv
    obtain ⟨e1, e2, e3⟩ := (hps _ _ _ hp9).1 rfl
    rw [Nat.zero_add] at e1
    subst e1
    have h40 : ∀ j, j ≤ ngN inp n → cnt (rwsK inp n gt cl j) ≤ 40 := fun j hj => by
      by_cases z : j = 0
      · subst z; exact hc0
      · exact e3 j (by omega) hj
    refine ⟨0, by decide, rfl, (hm.fx hF).out, ?_⟩
    rintro r2 hp2 ⟨⟨t, li2, si2, st2, nu2, wo2, fr2, hM, ⟨rfl, rfl, -, rfl, hL⟩ | ⟨-, -, -, -, -, ⟨j, h1, h2, h3⟩, -⟩⟩, hFM⟩
    · refine ⟨_, rfl, mkfin (hX.out.fm hFM) hM (hFM.o65 (va_up_self _ _ _)) (hB.prove h40 hL e2) (fun _ => ?_)⟩
      rw [va_up_self, e2 _ (Nat.le_refl _)]
    · exact absurd (h40 j h2) (by omega)
  · obtain ⟨j0, j1, j2, j3⟩ := (hps _ _ _ hp9).2 rfl
    rw [Nat.zero_add] at j2
    have hl0 : li = 0 := by
      by_cases z : li = 0
      · exact z
      · exact absurd ((hB.2.2.2.2.2.2 z).2 j0 j2) (by omega)
    subst hl0
    refine ⟨1, by decide, rfl, hm.fx hF, ?_⟩
    rintro r2 hp2 ⟨⟨t, li2, si2, st2, nu2, wo2, fr2, hM, ⟨rfl, rfl, h4, rfl, hL⟩ | ⟨rfl, rfl, rfl, rfl, rfl, -, ⟨v, rfl⟩⟩⟩, hFM⟩
    · exact absurd (h4 j0 j2) (by omega)
    · exact ⟨_, rfl, mkfin (hX.fm hFM) hM (hFM.o65 ((hF 65 (by decide)).trans h65)) hB.noline (fun z => absurd z (by decide))⟩
theorem t_size {x : Int32} (h : XR hp n inp an li cl ex pr gt) (hm : MR hp th n an li ki fi se tr cl si st nu wo fr) (h65 : hp 65 = kJ 1 f0) (hB : BI n inp an li cl pr gt ki fi se tr si st nu) {r1 : Option Value} {hpw : Nat → KE} (hw : (∃ (v : Int32) (hp1 : Nat → KE) (f : Nat → Int64), (fun (r : Option Value) (hp' : Nat → KE) => ∃ k, k < li ∧ x = nI k ∧ r = some (.int (nI (cnt (pr k)))) ∧ hp' = hp) (some (.int v)) hp1 ∧ hp1 65 = kJ 1 f ∧ r1 = some (.int 0) ∧ hpw = va_up hp1 65 (kJ 1 (va_up f 0 v.toInt64))) ∨ ((fun (E : String) (hp' : Nat → KE) => lineX li x E ∧ hp' = hp) ISE hpw ∧ r1 = some (.int 1)) ∨ ((fun (E : String) (hp' : Nat → KE) => lineX li x E ∧ hp' = hp) IOB hpw ∧ r1 = some (.int 2))) : ∃ kc, kc ≤ 3 ∧ r1 = some (.int (nI kc)) ∧ MR hpw th n an li ki fi se tr cl si st nu wo fr ∧ ∀ (r2 : Option Value) (hp2 : Nat → KE), (let hp := hpw; (fun (r : Option Value) (hp' : Nat → KE) => (∃ v, r = some (.int v) ∧ (lackN li x = 0 → ∃ k, k < li ∧ x = nI k ∧ v = nI (si k))) ∧ MR hp' (lackN li x) n an li ki fi se tr cl si st nu wo fr ∧ FM hp hp') r2 hp2) → ∃ v : Int32, r2 = some (.int v) ∧ FIN kc v.toInt64 hp2 := by
  have hl9 := hB.li10
  rcases hw with ⟨v, hpa, f, ⟨k, hk, rfl, hv, rfl⟩, hf, rfl, rfl⟩ | ⟨⟨hl, rfl⟩, rfl⟩ | ⟨⟨hl, rfl⟩, rfl⟩
  · cases hv
    refine ⟨0, by decide, rfl, hm.out, ?_⟩
    rintro r2 hp2 ⟨⟨v2, rfl, hv2⟩, hM, hFM⟩
    have l0 := lack_ok hl9 hk rfl
    rw [l0] at hM
    obtain ⟨k2, hk2, e2, rfl⟩ := hv2 l0
    obtain rfl := nI_iq e2 (by omega) (by omega)
    refine ⟨_, rfl, mkfin (h.out.fm hFM) hM (hFM.o65 (va_up_self _ _ _)) hB (fun _ => ?_)⟩
    rw [va_up_self, (hB.2.2.2.2.2.1 k hk).1.2.1]
  · refine ⟨1, by decide, rfl, hm, ?_⟩
    rintro r2 hp2 ⟨⟨v2, rfl, hv2⟩, hM, hFM⟩
    rw [lack_1 (lineX_ISE hl)] at hM
    exact ⟨_, rfl, mkfin (h.fm hFM) hM (hFM.o65 h65) hB (fun z => absurd z (by decide))⟩
  · refine ⟨2, by decide, rfl, hm, ?_⟩
    rintro r2 hp2 ⟨⟨v2, rfl, hv2⟩, hM, hFM⟩
    rw [lack_2 (lineX_IOB hl)] at hM
    exact ⟨_, rfl, mkfin (h.fm hFM) hM (hFM.o65 h65) hB (fun z => absurd z (by decide))⟩
theorem t_monomial {x y : Int32} (h : XR hp n inp an li cl ex pr gt) (hm : MR hp th n an li ki fi se tr cl si st nu wo fr) (h65 : hp 65 = kJ 1 f0) (hB : BI n inp an li cl pr gt ki fi se tr si st nu) {r1 : Option Value} {hpw : Nat → KE} (hw : (∃ (v : Int32) (hp1 : Nat → KE) (f : Nat → Int64), (fun (r : Option Value) (hp' : Nat → KE) => ∃ k i, k < li ∧ x = nI k ∧ i < cnt (pr k) ∧ y = nI i ∧ r = some (.int (nI (monAt (pr k) 511 i))) ∧ hp' = hp) (some (.int v)) hp1 ∧ hp1 65 = kJ 1 f ∧ r1 = some (.int 0) ∧ hpw = va_up hp1 65 (kJ 1 (va_up f 0 v.toInt64))) ∨ ((fun (E : String) (hp' : Nat → KE) => (lineX li x E ∨ (∃ k, k < li ∧ x = nI k ∧ (¬ ∃ i, i < cnt (pr k) ∧ y = nI i) ∧ E = IOB)) ∧ hp' = hp) ISE hpw ∧ r1 = some (.int 1)) ∨ ((fun (E : String) (hp' : Nat → KE) => (lineX li x E ∨ (∃ k, k < li ∧ x = nI k ∧ (¬ ∃ i, i < cnt (pr k) ∧ y = nI i) ∧ E = IOB)) ∧ hp' = hp) IOB hpw ∧ r1 = some (.int 2))) : ∃ kc, kc ≤ 3 ∧ r1 = some (.int (nI kc)) ∧ MR hpw th n an li ki fi se tr cl si st nu wo fr ∧ ∀ (r2 : Option Value) (hp2 : Nat → KE), (let hp := hpw; (fun (r : Option Value) (hp' : Nat → KE) => (∃ t, MR hp' t n an li ki fi se tr cl si st nu wo fr ∧ ((t = lackN li x ∧ ¬ t = 0 ∧ ∃ v, r = some (.int v)) ∨ (lackN li x = 0 ∧ ∃ k, k < li ∧ x = nI k ∧ ((t = 2 ∧ (¬ ∃ i, i < si k ∧ y = nI i) ∧ ∃ v, r = some (.int v)) ∨ (t = 0 ∧ ∃ i, i < si k ∧ y = nI i ∧ r = some (.int (nI (monAt (pr k) (2 ^ n - 1) i)))))))) ∧ FM hp hp') r2 hp2) → ∃ v : Int32, r2 = some (.int v) ∧ FIN kc v.toInt64 hp2 := by
  have hl9 := hB.li10
  rcases hw with ⟨v, hpa, f, ⟨k, i, hk, rfl, hi, rfl, hv, rfl⟩, hf, rfl, rfl⟩ | ⟨⟨hl, rfl⟩, rfl⟩ | ⟨⟨hl, rfl⟩, rfl⟩
  · cases hv
    obtain ⟨hLN, hsu⟩ := hB.2.2.2.2.2.1 k hk
    have h40 := hLN.1
    have hcs := hLN.2.1
    have l0 := lack_ok hl9 hk rfl
    refine ⟨0, by decide, rfl, hm.out, ?_⟩
    rintro r2 hp2 ⟨⟨t, hM, ⟨rfl, ht, -⟩ | ⟨-, k2, hk2, e2, ⟨-, hni, -⟩ | ⟨rfl, i2, hi2, e3, rfl⟩⟩⟩, hFM⟩
    · exact absurd l0 ht
    · obtain rfl := nI_iq e2 (by omega) (by omega)
      exact absurd ⟨i, by rw [← hcs]; exact hi, rfl⟩ hni
    · obtain rfl := nI_iq e2 (by omega) (by omega)
      obtain rfl := nI_iq e3 (by omega) (by omega)
      refine ⟨_, rfl, mkfin (h.out.fm hFM) hM (hFM.o65 (va_up_self _ _ _)) hB (fun _ => ?_)⟩
      rw [va_up_self, supp_mon hB.1.1 hsu]
  · have l1 : li = 0 := by
      rcases hl with hl | ⟨k, hk, -, -, q⟩
      · exact lineX_ISE hl
      · exact absurd q (by decide +kernel)
    refine ⟨1, by decide, rfl, hm, ?_⟩
    rintro r2 hp2 ⟨⟨t, hM, ⟨rfl, ht, ⟨v, rfl⟩⟩ | ⟨h9, -⟩⟩, hFM⟩
    · rw [lack_1 l1] at hM
      exact ⟨_, rfl, mkfin (h.fm hFM) hM (hFM.o65 h65) hB (fun z => absurd z (by decide))⟩
    · rw [lack_1 l1] at h9; cases h9
  · refine ⟨2, by decide, rfl, hm, ?_⟩
    rcases hl with hl | ⟨k, hk, rfl, hni, -⟩
    · have l2 := lack_2 (lineX_IOB hl)
      rintro r2 hp2 ⟨⟨t, hM, ⟨rfl, ht, ⟨v, rfl⟩⟩ | ⟨h9, -⟩⟩, hFM⟩
      · rw [l2] at hM
        exact ⟨_, rfl, mkfin (h.fm hFM) hM (hFM.o65 h65) hB (fun z => absurd z (by decide))⟩
      · rw [l2] at h9; cases h9
    · have hcs := (hB.2.2.2.2.2.1 k hk).1.2.1
      rintro r2 hp2 ⟨⟨t, hM, ⟨rfl, ht, -⟩ | ⟨-, k2, hk2, e2, ⟨rfl, hni2, ⟨v, rfl⟩⟩ | ⟨rfl, i2, hi2, e3, rfl⟩⟩⟩, hFM⟩
      · exact absurd (lack_ok hl9 hk rfl) ht
      · exact ⟨_, rfl, mkfin (h.fm hFM) hM (hFM.o65 h65) hB (fun z => absurd z (by decide))⟩
      · obtain rfl := nI_iq e2 (by omega) (by omega)
        exact absurd ⟨i2, by rw [hcs]; exact hi2, e3⟩ hni
theorem t_coefficient {x y : Int32} (h : XR hp n inp an li cl ex pr gt) (hm : MR hp th n an li ki fi se tr cl si st nu wo fr) (h65 : hp 65 = kJ 1 f0) (hB : BI n inp an li cl pr gt ki fi se tr si st nu) {r1 : Option Value} {hpw : Nat → KE} (hw : (∃ (v : Int64) (hp1 : Nat → KE) (f : Nat → Int64), (fun (r : Option Value) (hp' : Nat → KE) => ∃ k i, k < li ∧ x = nI k ∧ i < 2 ^ n ∧ y = nI i ∧ r = some (.long (pr k i)) ∧ hp' = hp) (some (.long v)) hp1 ∧ hp1 65 = kJ 1 f ∧ r1 = some (.int 0) ∧ hpw = va_up hp1 65 (kJ 1 (va_up f 0 v))) ∨ ((fun (E : String) (hp' : Nat → KE) => (lineX li x E ∨ ((∃ k, k < li ∧ x = nI k) ∧ setB n y = false ∧ E = IOB)) ∧ hp' = hp) ISE hpw ∧ r1 = some (.int 1)) ∨ ((fun (E : String) (hp' : Nat → KE) => (lineX li x E ∨ ((∃ k, k < li ∧ x = nI k) ∧ setB n y = false ∧ E = IOB)) ∧ hp' = hp) IOB hpw ∧ r1 = some (.int 2))) : ∃ kc, kc ≤ 3 ∧ r1 = some (.int (nI kc)) ∧ MR hpw th n an li ki fi se tr cl si st nu wo fr ∧ ∀ (r2 : Option Value) (hp2 : Nat → KE), (let hp := hpw; (fun (r : Option Value) (hp' : Nat → KE) => (∃ t, MR hp' t n an li ki fi se tr cl si st nu wo fr ∧ ((t = lackN li x ∧ ¬ t = 0 ∧ ∃ v, r = some (.long v)) ∨ (lackN li x = 0 ∧ ∃ k, k < li ∧ x = nI k ∧ ((t = 2 ∧ setB n y = false ∧ ∃ v, r = some (.long v)) ∨ (t = 0 ∧ ∃ i, i < 2 ^ n ∧ y = nI i ∧ r = some (.long (pr k i))))))) ∧ FM hp hp') r2 hp2) → ∃ v : Int64, r2 = some (.long v) ∧ FIN kc v hp2 := by
  have hl9 := hB.li10
  have hn9 := hB.1.1
  have h5 := p2_lt hn9
  rcases hw with ⟨v, hpa, f, ⟨k, i, hk, rfl, hi, rfl, hv, rfl⟩, hf, rfl, rfl⟩ | ⟨⟨hl, rfl⟩, rfl⟩ | ⟨⟨hl, rfl⟩, rfl⟩
  · cases hv
    have l0 := lack_ok hl9 hk rfl
    refine ⟨0, by decide, rfl, hm.out, ?_⟩
    rintro r2 hp2 ⟨⟨t, hM, ⟨rfl, ht, -⟩ | ⟨-, k2, hk2, e2, ⟨-, hni, -⟩ | ⟨rfl, i2, hi2, e3, rfl⟩⟩⟩, hFM⟩
    · exact absurd l0 ht
    · rw [(setB_iff hn9).mpr ⟨i, hi, rfl⟩] at hni; cases hni
    · obtain rfl := nI_iq e2 (by omega) (by omega)
      obtain rfl := nI_iq e3 (by omega) (by omega)
      exact ⟨_, rfl, mkfin (h.out.fm hFM) hM (hFM.o65 (va_up_self _ _ _)) hB (fun _ => va_up_self _ _ _)⟩
  · have l1 : li = 0 := by
      rcases hl with hl | ⟨-, -, q⟩
      · exact lineX_ISE hl
      · exact absurd q (by decide +kernel)
    refine ⟨1, by decide, rfl, hm, ?_⟩
    rintro r2 hp2 ⟨⟨t, hM, ⟨rfl, ht, ⟨v, rfl⟩⟩ | ⟨h9, -⟩⟩, hFM⟩
    · rw [lack_1 l1] at hM
      exact ⟨_, rfl, mkfin (h.fm hFM) hM (hFM.o65 h65) hB (fun z => absurd z (by decide))⟩
    · rw [lack_1 l1] at h9; cases h9
  · refine ⟨2, by decide, rfl, hm, ?_⟩
    rcases hl with hl | ⟨⟨k, hk, rfl⟩, hni, -⟩
    · have l2 := lack_2 (lineX_IOB hl)
      rintro r2 hp2 ⟨⟨t, hM, ⟨rfl, ht, ⟨v, rfl⟩⟩ | ⟨h9, -⟩⟩, hFM⟩
      · rw [l2] at hM
        exact ⟨_, rfl, mkfin (h.fm hFM) hM (hFM.o65 h65) hB (fun z => absurd z (by decide))⟩
      · rw [l2] at h9; cases h9
    · rintro r2 hp2 ⟨⟨t, hM, ⟨rfl, ht, -⟩ | ⟨-, k2, hk2, e2, ⟨rfl, hni2, ⟨v, rfl⟩⟩ | ⟨rfl, i2, hi2, e3, rfl⟩⟩⟩, hFM⟩
      · exact absurd (lack_ok hl9 hk rfl) ht
      · exact ⟨_, rfl, mkfin (h.fm hFM) hM (hFM.o65 h65) hB (fun z => absurd z (by decide))⟩
      · rw [(setB_iff hn9).mpr ⟨i2, hi2, e3⟩] at hni; cases hni
theorem t_spoil {x y z : Int32} (h : XR hp n inp an li cl ex pr gt) (hm : MR hp th n an li ki fi se tr cl si st nu wo fr) (h65 : hp 65 = kJ 1 f0) (hB : BI n inp an li cl pr gt ki fi se tr si st nu) {r1 : Option Value} {hpw : Nat → KE} (hw : (∃ (v : Int64) (hp1 : Nat → KE) (f : Nat → Int64), (fun (r : Option Value) (hp' : Nat → KE) => ∃ k i, k < li ∧ x = nI k ∧ i < 2 ^ n ∧ y = nI i ∧ ¬ (¬ z = 0 ∧ pr k i = 0 ∧ 40 ≤ cnt (pr k)) ∧ r = some (.long (pr k i + z.toInt64)) ∧ XR hp' n inp an li cl ex (va_up pr k (inc (pr k) i z.toInt64)) gt ∧ FX hp hp') (some (.long v)) hp1 ∧ hp1 65 = kJ 1 f ∧ r1 = some (.int 0) ∧ hpw = va_up hp1 65 (kJ 1 (va_up f 0 v))) ∨ ((fun (E : String) (hp' : Nat → KE) => (lineX li x E ∨ ((∃ k, k < li ∧ x = nI k) ∧ setB n y = false ∧ E = IOB) ∨ (∃ k i, k < li ∧ x = nI k ∧ i < 2 ^ n ∧ y = nI i ∧ (¬ z = 0 ∧ pr k i = 0 ∧ 40 ≤ cnt (pr k)) ∧ E = AEX)) ∧ hp' = hp) ISE hpw ∧ r1 = some (.int 1)) ∨ ((fun (E : String) (hp' : Nat → KE) => (lineX li x E ∨ ((∃ k, k < li ∧ x = nI k) ∧ setB n y = false ∧ E = IOB) ∨ (∃ k i, k < li ∧ x = nI k ∧ i < 2 ^ n ∧ y = nI i ∧ (¬ z = 0 ∧ pr k i = 0 ∧ 40 ≤ cnt (pr k)) ∧ E = AEX)) ∧ hp' = hp) IOB hpw ∧ r1 = some (.int 2)) ∨ ((fun (E : String) (hp' : Nat → KE) => (lineX li x E ∨ ((∃ k, k < li ∧ x = nI k) ∧ setB n y = false ∧ E = IOB) ∨ (∃ k i, k < li ∧ x = nI k ∧ i < 2 ^ n ∧ y = nI i ∧ (¬ z = 0 ∧ pr k i = 0 ∧ 40 ≤ cnt (pr k)) ∧ E = AEX)) ∧ hp' = hp) AEX hpw ∧ r1 = some (.int 3))) : ∃ kc, kc ≤ 3 ∧ r1 = some (.int (nI kc)) ∧ MR hpw th n an li ki fi se tr cl si st nu wo fr ∧ ∀ (r2 : Option Value) (hp2 : Nat → KE), (let hp := hpw; (fun (r : Option Value) (hp' : Nat → KE) => (∃ t si2 st2 nu2, MR hp' t n an li ki fi se tr cl si2 st2 nu2 wo fr ∧ ((t = lackN li x ∧ ¬ t = 0 ∧ (∃ v, r = some (.long v)) ∧ si2 = si ∧ st2 = st ∧ nu2 = nu) ∨ (lackN li x = 0 ∧ ∃ k, k < li ∧ x = nI k ∧ ((t = 2 ∧ setB n y = false ∧ (∃ v, r = some (.long v)) ∧ si2 = si ∧ st2 = st ∧ nu2 = nu) ∨ (∃ i, i < 2 ^ n ∧ y = nI i ∧ ((t = 3 ∧ pr k i = 0 ∧ ¬ pr k i + z.toInt64 = 0 ∧ si k = 40 ∧ (∃ v, r = some (.long v)) ∧ si2 = si ∧ st2 = st ∧ nu2 = nu) ∨ (t = 0 ∧ ¬ (pr k i = 0 ∧ ¬ pr k i + z.toInt64 = 0 ∧ si k = 40) ∧ r = some (.long (pr k i + z.toInt64)) ∧ LN n si2 st2 nu2 k (va_up (pr k) i (pr k i + z.toInt64)) ∧ OL si st nu si2 st2 nu2 k))))))) ∧ FM hp hp') r2 hp2) → ∃ v : Int64, r2 = some (.long v) ∧ FIN kc v hp2 := by
  have hl9 := hB.li10
  have hn9 := hB.1.1
  have h5 := p2_lt hn9
  rcases hw with ⟨v, hpa, f, ⟨k, i, hk, rfl, hi, rfl, hno, hv, hX, hF⟩, hf, rfl, rfl⟩ | ⟨⟨hl, rfl⟩, rfl⟩ | ⟨⟨hl, rfl⟩, rfl⟩ | ⟨⟨hl, rfl⟩, rfl⟩
  · cases hv
    have l0 := lack_ok hl9 hk rfl
    obtain ⟨hLN, hsu⟩ := hB.2.2.2.2.2.1 k hk
    have h40 := hLN.1
    have hcs := hLN.2.1
    refine ⟨0, by decide, rfl, (hm.fx hF).out, ?_⟩
    rintro r2 hp2 ⟨⟨t, si2, st2, nu2, hM, ⟨rfl, ht, -⟩ | ⟨-, k2, hk2, e2, ⟨-, hni, -⟩ | ⟨i2, hi2, e3, ⟨rfl, q1, q2, q3, -⟩ | ⟨rfl, -, rfl, q4, q5⟩⟩⟩⟩, hFM⟩
    · exact absurd l0 ht
    · rw [(setB_iff hn9).mpr ⟨i, hi, rfl⟩] at hni; cases hni
    · obtain rfl := nI_iq e2 (by omega) (by omega)
      obtain rfl := nI_iq e3 (by omega) (by omega)
      refine absurd ⟨fun z0 => q2 ?_, q1, by omega⟩ hno
      rw [z0, q1]; rfl
    · obtain rfl := nI_iq e2 (by omega) (by omega)
      obtain rfl := nI_iq e3 (by omega) (by omega)
      exact ⟨_, rfl, mkfin (hX.out.fm hFM) hM (hFM.o65 (va_up_self _ _ _)) (BI.spoil (pr2 := pr) hB hi q4 q5) (fun _ => va_up_self _ _ _)⟩
  · have l1 : li = 0 := by
      rcases hl with hl | ⟨-, -, q⟩ | ⟨k, i, -, -, -, -, -, q⟩
      · exact lineX_ISE hl
      · exact absurd q (by decide +kernel)
      · exact absurd q (by decide +kernel)
    refine ⟨1, by decide, rfl, hm, ?_⟩
    rintro r2 hp2 ⟨⟨t, si2, st2, nu2, hM, ⟨rfl, ht, ⟨v, rfl⟩, rfl, rfl, rfl⟩ | ⟨h9, -⟩⟩, hFM⟩
    · rw [lack_1 l1] at hM
      exact ⟨_, rfl, mkfin (h.fm hFM) hM (hFM.o65 h65) hB (fun z => absurd z (by decide))⟩
    · rw [lack_1 l1] at h9; cases h9
  · refine ⟨2, by decide, rfl, hm, ?_⟩
    rcases hl with hl | ⟨⟨k, hk, rfl⟩, hni, -⟩ | ⟨k, i, -, -, -, -, -, q⟩
    · have l2 := lack_2 (lineX_IOB hl)
      rintro r2 hp2 ⟨⟨t, si2, st2, nu2, hM, ⟨rfl, ht, ⟨v, rfl⟩, rfl, rfl, rfl⟩ | ⟨h9, -⟩⟩, hFM⟩
      · rw [l2] at hM
        exact ⟨_, rfl, mkfin (h.fm hFM) hM (hFM.o65 h65) hB (fun z => absurd z (by decide))⟩
      · rw [l2] at h9; cases h9
    · rintro r2 hp2 ⟨⟨t, si2, st2, nu2, hM, ⟨rfl, ht, -⟩ | ⟨-, k2, hk2, e2, ⟨rfl, hni2, ⟨v, rfl⟩, rfl, rfl, rfl⟩ | ⟨i2, hi2, e3, -⟩⟩⟩, hFM⟩
      · exact absurd (lack_ok hl9 hk rfl) ht
      · exact ⟨_, rfl, mkfin (h.fm hFM) hM (hFM.o65 h65) hB (fun z => absurd z (by decide))⟩
      · rw [(setB_iff hn9).mpr ⟨i2, hi2, e3⟩] at hni; cases hni
    · exact absurd q (by decide +kernel)
  · rcases hl with hl | ⟨-, -, q⟩ | ⟨k, i, hk, rfl, hi, rfl, ⟨z1, z2, z3⟩, -⟩
    · exact (lineX_AEX hl).elim
    · exact absurd q (by decide +kernel)
    have l0 := lack_ok hl9 hk rfl
    obtain ⟨hLN, hsu⟩ := hB.2.2.2.2.2.1 k hk
    have h40 := hLN.1
    have hcs := hLN.2.1
    refine ⟨3, by decide, rfl, hm, ?_⟩
    rintro r2 hp2 ⟨⟨t, si2, st2, nu2, hM, ⟨rfl, ht, -⟩ | ⟨-, k2, hk2, e2, ⟨-, hni, -⟩ | ⟨i2, hi2, e3, ⟨rfl, q1, q2, q3, ⟨v, rfl⟩, rfl, rfl, rfl⟩ | ⟨rfl, q6, -⟩⟩⟩⟩, hFM⟩
    · exact absurd l0 ht
    · rw [(setB_iff hn9).mpr ⟨i, hi, rfl⟩] at hni; cases hni
    · exact ⟨_, rfl, mkfin (h.fm hFM) hM (hFM.o65 h65) hB (fun z => absurd z (by decide))⟩
    · obtain rfl := nI_iq e2 (by omega) (by omega)
      obtain rfl := nI_iq e3 (by omega) (by omega)
      refine absurd ⟨z2, fun z0 => z1 (i64_z ?_), by omega⟩ q6
      rw [z2, Int64.zero_add] at z0
      exact z0
theorem t_check (h : XR hp n inp an li cl ex pr gt) (hm : MR hp th n an li ki fi se tr cl si st nu wo fr) (h65 : hp 65 = kJ 1 f0) (hB : BI n inp an li cl pr gt ki fi se tr si st nu) {r1 : Option Value} {hpw : Nat → KE} (hw : (∃ (v : Int32) (hp1 : Nat → KE) (f : Nat → Int64), (fun (r : Option Value) (hp' : Nat → KE) => ¬ li = 0 ∧ r = some (.int (nI (if eqR (pr 0) cl = true then (chkN inp gt pr n 0).getD li else 0))) ∧ (∃ ex', XR hp' n inp an li cl ex' pr gt) ∧ FX hp hp') (some (.int v)) hp1 ∧ hp1 65 = kJ 1 f ∧ r1 = some (.int 0) ∧ hpw = va_up hp1 65 (kJ 1 (va_up f 0 v.toInt64))) ∨ ((fun (E : String) (hp' : Nat → KE) => li = 0 ∧ E = ISE ∧ hp' = hp) ISE hpw ∧ r1 = some (.int 1))) : ∃ kc, kc ≤ 3 ∧ r1 = some (.int (nI kc)) ∧ MR hpw th n an li ki fi se tr cl si st nu wo fr ∧ ∀ (r2 : Option Value) (hp2 : Nat → KE), (let hp := hpw; (fun (r : Option Value) (hp' : Nat → KE) => (∃ t wo2 fr2, MR hp' t n an li ki fi se tr cl si st nu wo2 fr2 ∧ ((li = 0 ∧ t = 1 ∧ ∃ v, r = some (.int v)) ∨ (¬ li = 0 ∧ t = 0 ∧ r = some (.int (nI (if eqR (pr 0) cl = true then (chkN inp gt pr n 0).getD li else 0)))))) ∧ FM hp hp') r2 hp2) → ∃ v : Int32, r2 = some (.int v) ∧ FIN kc v.toInt64 hp2 := by
  rcases hw with ⟨v, hpa, f, ⟨hl, hv, ⟨ex2, hX⟩, hF⟩, hf, rfl, rfl⟩ | ⟨⟨hl, -, rfl⟩, rfl⟩
  · have hv2 := Value.int.inj (Option.some.inj hv)
    subst hv2
    refine ⟨0, by decide, rfl, (hm.fx hF).out, ?_⟩
    rintro r2 hp2 ⟨⟨t, wo2, fr2, hM, ⟨h9, -⟩ | ⟨-, rfl, rfl⟩⟩, hFM⟩
    · exact absurd h9 hl
    · exact ⟨_, rfl, mkfin (hX.out.fm hFM) hM (hFM.o65 (va_up_self _ _ _)) hB (fun _ => va_up_self _ _ _)⟩
  · refine ⟨1, by decide, rfl, hm, ?_⟩
    rintro r2 hp2 ⟨⟨t, wo2, fr2, hM, ⟨-, rfl, ⟨v, rfl⟩⟩ | ⟨h9, -⟩⟩, hFM⟩
    · exact ⟨_, rfl, mkfin (h.fm hFM) hM (hFM.o65 h65) hB (fun z => absurd z (by decide))⟩
    · exact absurd hl h9
theorem t_witness (h : XR hp n inp an li cl ex pr gt) (hm : MR hp th n an li ki fi se tr cl si st nu wo fr) (h65 : hp 65 = kJ 1 f0) (hB : BI n inp an li cl pr gt ki fi se tr si st nu) {r1 : Option Value} {hpw : Nat → KE} (hw : (∃ (v : Int32) (hp1 : Nat → KE) (f : Nat → Int64), (fun (r : Option Value) (hp' : Nat → KE) => ¬ li = 0 ∧ ¬ cnt (pr (li - 1)) = 0 ∧ r = some (.int (nI (lmN (pr (li - 1)) 512).1)) ∧ hp' = hp) (some (.int v)) hp1 ∧ hp1 65 = kJ 1 f ∧ r1 = some (.int 0) ∧ hpw = va_up hp1 65 (kJ 1 (va_up f 0 v.toInt64))) ∨ ((fun (E : String) (hp' : Nat → KE) => ((li = 0 ∧ E = ISE) ∨ (¬ li = 0 ∧ cnt (pr (li - 1)) = 0 ∧ E = NSE)) ∧ hp' = hp) ISE hpw ∧ r1 = some (.int 1)) ∨ ((fun (E : String) (hp' : Nat → KE) => ((li = 0 ∧ E = ISE) ∨ (¬ li = 0 ∧ cnt (pr (li - 1)) = 0 ∧ E = NSE)) ∧ hp' = hp) NSE hpw ∧ r1 = some (.int 2))) : ∃ kc, kc ≤ 3 ∧ r1 = some (.int (nI kc)) ∧ MR hpw th n an li ki fi se tr cl si st nu wo fr ∧ ∀ (r2 : Option Value) (hp2 : Nat → KE), (let hp := hpw; (fun (r : Option Value) (hp' : Nat → KE) => (∃ t, MR hp' t n an li ki fi se tr cl si st nu wo fr ∧ ((li = 0 ∧ t = 1 ∧ ∃ v, r = some (.int v)) ∨ (¬ li = 0 ∧ si (li - 1) = 0 ∧ t = 2 ∧ ∃ v, r = some (.int v)) ∨ (¬ li = 0 ∧ ¬ si (li - 1) = 0 ∧ t = 0 ∧ r = some (.int (bV (wtN (pr (li - 1)) (2 ^ n))))))) ∧ FM hp hp') r2 hp2) → ∃ v : Int32, r2 = some (.int v) ∧ FIN kc v.toInt64 hp2 := by
  rcases hw with ⟨v, hpa, f, ⟨hl, hc, hv, rfl⟩, hf, rfl, rfl⟩ | ⟨⟨hl, rfl⟩, rfl⟩ | ⟨⟨hl, rfl⟩, rfl⟩
  · have hv2 := Value.int.inj (Option.some.inj hv)
    subst hv2
    obtain ⟨hLN, hsu⟩ := hB.2.2.2.2.2.1 (li - 1) (by omega)
    have hcs := hLN.2.1
    obtain ⟨b, w1, w2⟩ := supp_least hB.1.1 hsu hc
    refine ⟨0, by decide, rfl, hm.out, ?_⟩
    rintro r2 hp2 ⟨⟨t, hM, ⟨h9, -⟩ | ⟨-, h9, -⟩ | ⟨-, -, rfl, rfl⟩⟩, hFM⟩
    · exact absurd h9 hl
    · omega
    · refine ⟨_, rfl, mkfin (h.out.fm hFM) hM (hFM.o65 (va_up_self _ _ _)) hB (fun _ => ?_)⟩
      rw [va_up_self, w1, w2]
      rfl
  · have l1 : li = 0 := by
      rcases hl with ⟨q, -⟩ | ⟨-, -, q⟩
      · exact q
      · exact absurd q (by decide +kernel)
    refine ⟨1, by decide, rfl, hm, ?_⟩
    rintro r2 hp2 ⟨⟨t, hM, ⟨-, rfl, ⟨v, rfl⟩⟩ | ⟨h9, -⟩ | ⟨h9, -⟩⟩, hFM⟩
    · exact ⟨_, rfl, mkfin (h.fm hFM) hM (hFM.o65 h65) hB (fun z => absurd z (by decide))⟩
    · exact absurd l1 h9
    · exact absurd l1 h9
  · obtain ⟨l1, l2⟩ : ¬ li = 0 ∧ cnt (pr (li - 1)) = 0 := by
      rcases hl with ⟨-, q⟩ | ⟨q, q2, -⟩
      · exact absurd q (by decide +kernel)
      · exact ⟨q, q2⟩
    have hcs := (hB.2.2.2.2.2.1 (li - 1) (by omega)).1.2.1
    refine ⟨2, by decide, rfl, hm, ?_⟩
    rintro r2 hp2 ⟨⟨t, hM, ⟨h9, -⟩ | ⟨-, -, rfl, ⟨v, rfl⟩⟩ | ⟨-, h9, -⟩⟩, hFM⟩
    · exact absurd h9 l1
    · exact ⟨_, rfl, mkfin (h.fm hFM) hM (hFM.o65 h65) hB (fun z => absurd z (by decide))⟩
    · omega
end
