section
variable {l : Launch} {D : va_G} {dA ad sa : Nat → Nat} {L : List Nat} {hp : Nat → KE}
theorem c_X3_init (hj : kinj ad L) (hn : L.Nodup) (hk : 54 ∈ L) (hq : ∀ k ∈ L, k < 55 ∨ 65 ≤ k) (hcl : CLO L hp) (hh : hp 54 = kO 3 [.int 0, .int 0, .null, .null, .null, .null, .int 0, .null, .int 0, .null, .null, .null, .null, .null]) : KC l yX3_init cX3_init 1 (rmK 1 10 2386) D dA ad sa L [.ref 54] hp (nks 55 10) (fun hp' => MR hp' 0 0 0 0 (fun _ => 0) (fun _ => 0) (fun _ => 0) (fun _ => 0) (fun _ => 0) (fun _ => 0) (fun _ => 0) (fun _ => 0) (fun _ => 0) (fun _ => 0) ∧ FM hp hp') := by
  refine KC.of rfl ok_X3_init (len_of rfl) hj hn rfl ?_
  intro p e s m args below meth c A hC hN hI
  refine g_run hC 1 rfl ?_
  refine g_obj hC rfl mL_X3_1 ⟨by decide, by decide⟩ ?_
  refine g_run hC 2 rfl ?_
  refine g_mkI (N := 10) (q := 55) (ci := 3) (j := 2) hC rfl rfl F_X3_7 hk hh (by decide) (Or.inl rfl) rfl (by decide) (fun z => by have := hq _ z; omega) hcl (lv_cons (rv hk) lv_nil) sv_nil ⟨by decide, by decide⟩ (fun ad1 a1 hC1 cl1 => ?_)
  have k1 := List.mem_append_left [55] hk
  have hf1 : ∀ k ∈ L ++ [55], ¬ (55 < k ∧ k < 65) := fun k hk9 h9 => by
    rcases List.mem_append.mp hk9 with z | z
    · have := hq _ z; omega
    · have := List.mem_singleton.mp z; omega
  have b1 : ∀ j ∈ L, ad1 j = ad j := a1
  refine g_run hC1 2 rfl ?_
  refine g_mkI (N := 10) (q := 56) (ci := 3) (j := 3) hC1 rfl rfl F_X3_13 k1 (va_up_self _ _ _) (by decide) (Or.inl rfl) rfl (by decide) (fun z => hf1 _ z (by decide)) cl1 (lv_cons (rv k1) lv_nil) sv_nil ⟨by decide, by decide⟩ (fun ad2 a2 hC2 cl2 => ?_)
  have k2 := List.mem_append_left [56] k1
  have hf2 : ∀ k ∈ (L ++ [55]) ++ [56], ¬ (56 < k ∧ k < 65) := fun k hk9 h9 => by
    rcases List.mem_append.mp hk9 with z | z
    · exact hf1 k z (by omega)
    · have := List.mem_singleton.mp z; omega
  have b2 : ∀ j ∈ L, ad2 j = ad j := fun j hj9 => (a2 j (List.mem_append_left _ (hj9))).trans (b1 j hj9)
  refine g_run hC2 2 rfl ?_
  refine g_mkI (N := 10) (q := 57) (ci := 3) (j := 4) hC2 rfl rfl F_X3_16 k2 (va_up_self _ _ _) (by decide) (Or.inl rfl) rfl (by decide) (fun z => hf2 _ z (by decide)) cl2 (lv_cons (rv k2) lv_nil) sv_nil ⟨by decide, by decide⟩ (fun ad3 a3 hC3 cl3 => ?_)
  have k3 := List.mem_append_left [57] k2
  have hf3 : ∀ k ∈ ((L ++ [55]) ++ [56]) ++ [57], ¬ (57 < k ∧ k < 65) := fun k hk9 h9 => by
    rcases List.mem_append.mp hk9 with z | z
    · exact hf2 k z (by omega)
    · have := List.mem_singleton.mp z; omega
  have b3 : ∀ j ∈ L, ad3 j = ad j := fun j hj9 => (a3 j (List.mem_append_left _ (List.mem_append_left _ (hj9)))).trans (b2 j hj9)
  refine g_run hC3 2 rfl ?_
  refine g_mkI (N := 10) (q := 58) (ci := 3) (j := 5) hC3 rfl rfl F_X3_19 k3 (va_up_self _ _ _) (by decide) (Or.inl rfl) rfl (by decide) (fun z => hf3 _ z (by decide)) cl3 (lv_cons (rv k3) lv_nil) sv_nil ⟨by decide, by decide⟩ (fun ad4 a4 hC4 cl4 => ?_)
  have k4 := List.mem_append_left [58] k3
  have hf4 : ∀ k ∈ (((L ++ [55]) ++ [56]) ++ [57]) ++ [58], ¬ (58 < k ∧ k < 65) := fun k hk9 h9 => by
    rcases List.mem_append.mp hk9 with z | z
    · exact hf3 k z (by omega)
    · have := List.mem_singleton.mp z; omega
  have b4 : ∀ j ∈ L, ad4 j = ad j := fun j hj9 => (a4 j (List.mem_append_left _ (List.mem_append_left _ (List.mem_append_left _ (hj9))))).trans (b3 j hj9)
  refine g_run hC4 2 rfl ?_
  refine g_mkJ (N := 512) (q := 59) (ci := 3) (j := 7) hC4 rfl rfl F_X3_22 k4 (va_up_self _ _ _) (by decide) (Or.inl rfl) rfl (by decide) (fun z => hf4 _ z (by decide)) cl4 (lv_cons (rv k4) lv_nil) sv_nil ⟨by decide, by decide⟩ (fun ad5 a5 hC5 cl5 => ?_)
  have k5 := List.mem_append_left [59] k4
  have hf5 : ∀ k ∈ ((((L ++ [55]) ++ [56]) ++ [57]) ++ [58]) ++ [59], ¬ (59 < k ∧ k < 65) := fun k hk9 h9 => by
    rcases List.mem_append.mp hk9 with z | z
    · exact hf4 k z (by omega)
    · have := List.mem_singleton.mp z; omega
  have b5 : ∀ j ∈ L, ad5 j = ad j := fun j hj9 => (a5 j (List.mem_append_left _ (List.mem_append_left _ (List.mem_append_left _ (List.mem_append_left _ (hj9)))))).trans (b4 j hj9)
  refine g_run hC5 2 rfl ?_
  refine g_mkI (N := 10) (q := 60) (ci := 3) (j := 9) hC5 rfl rfl F_X3_26 k5 (va_up_self _ _ _) (by decide) (Or.inl rfl) rfl (by decide) (fun z => hf5 _ z (by decide)) cl5 (lv_cons (rv k5) lv_nil) sv_nil ⟨by decide, by decide⟩ (fun ad6 a6 hC6 cl6 => ?_)
  have k6 := List.mem_append_left [60] k5
  have hf6 : ∀ k ∈ (((((L ++ [55]) ++ [56]) ++ [57]) ++ [58]) ++ [59]) ++ [60], ¬ (60 < k ∧ k < 65) := fun k hk9 h9 => by
    rcases List.mem_append.mp hk9 with z | z
    · exact hf5 k z (by omega)
    · have := List.mem_singleton.mp z; omega
  have b6 : ∀ j ∈ L, ad6 j = ad j := fun j hj9 => (a6 j (List.mem_append_left _ (List.mem_append_left _ (List.mem_append_left _ (List.mem_append_left _ (List.mem_append_left _ (hj9))))))).trans (b5 j hj9)
  refine g_run hC6 2 rfl ?_
  refine g_mkI (N := 400) (q := 61) (ci := 3) (j := 10) hC6 rfl rfl F_X3_29 k6 (va_up_self _ _ _) (by decide) (Or.inl rfl) rfl (by decide) (fun z => hf6 _ z (by decide)) cl6 (lv_cons (rv k6) lv_nil) sv_nil ⟨by decide, by decide⟩ (fun ad7 a7 hC7 cl7 => ?_)
  have k7 := List.mem_append_left [61] k6
  have hf7 : ∀ k ∈ ((((((L ++ [55]) ++ [56]) ++ [57]) ++ [58]) ++ [59]) ++ [60]) ++ [61], ¬ (61 < k ∧ k < 65) := fun k hk9 h9 => by
    rcases List.mem_append.mp hk9 with z | z
    · exact hf6 k z (by omega)
    · have := List.mem_singleton.mp z; omega
  have b7 : ∀ j ∈ L, ad7 j = ad j := fun j hj9 => (a7 j (List.mem_append_left _ (List.mem_append_left _ (List.mem_append_left _ (List.mem_append_left _ (List.mem_append_left _ (List.mem_append_left _ (hj9)))))))).trans (b6 j hj9)
  refine g_run hC7 2 rfl ?_
  refine g_mkJ (N := 400) (q := 62) (ci := 3) (j := 11) hC7 rfl rfl F_X3_32 k7 (va_up_self _ _ _) (by decide) (Or.inl rfl) rfl (by decide) (fun z => hf7 _ z (by decide)) cl7 (lv_cons (rv k7) lv_nil) sv_nil ⟨by decide, by decide⟩ (fun ad8 a8 hC8 cl8 => ?_)
  have k8 := List.mem_append_left [62] k7
  have hf8 : ∀ k ∈ (((((((L ++ [55]) ++ [56]) ++ [57]) ++ [58]) ++ [59]) ++ [60]) ++ [61]) ++ [62], ¬ (62 < k ∧ k < 65) := fun k hk9 h9 => by
    rcases List.mem_append.mp hk9 with z | z
    · exact hf7 k z (by omega)
    · have := List.mem_singleton.mp z; omega
  have b8 : ∀ j ∈ L, ad8 j = ad j := fun j hj9 => (a8 j (List.mem_append_left _ (List.mem_append_left _ (List.mem_append_left _ (List.mem_append_left _ (List.mem_append_left _ (List.mem_append_left _ (List.mem_append_left _ (hj9))))))))).trans (b7 j hj9)
  refine g_run hC8 2 rfl ?_
  refine g_mkJ (N := 512) (q := 63) (ci := 3) (j := 12) hC8 rfl rfl F_X3_35 k8 (va_up_self _ _ _) (by decide) (Or.inl rfl) rfl (by decide) (fun z => hf8 _ z (by decide)) cl8 (lv_cons (rv k8) lv_nil) sv_nil ⟨by decide, by decide⟩ (fun ad9 a9 hC9 cl9 => ?_)
  have k9 := List.mem_append_left [63] k8
  have hf9 : ∀ k ∈ ((((((((L ++ [55]) ++ [56]) ++ [57]) ++ [58]) ++ [59]) ++ [60]) ++ [61]) ++ [62]) ++ [63], ¬ (63 < k ∧ k < 65) := fun k hk9 h9 => by
    rcases List.mem_append.mp hk9 with z | z
    · exact hf8 k z (by omega)
    · have := List.mem_singleton.mp z; omega
  have b9 : ∀ j ∈ L, ad9 j = ad j := fun j hj9 => (a9 j (List.mem_append_left _ (List.mem_append_left _ (List.mem_append_left _ (List.mem_append_left _ (List.mem_append_left _ (List.mem_append_left _ (List.mem_append_left _ (List.mem_append_left _ (hj9)))))))))).trans (b8 j hj9)
  refine g_run hC9 2 rfl ?_
  refine g_mkJ (N := 512) (q := 64) (ci := 3) (j := 13) hC9 rfl rfl F_X3_38 k9 (va_up_self _ _ _) (by decide) (Or.inl rfl) rfl (by decide) (fun z => hf9 _ z (by decide)) cl9 (lv_cons (rv k9) lv_nil) sv_nil ⟨by decide, by decide⟩ (fun ad10 a10 hC10 cl10 => ?_)
  have k10 := List.mem_append_left [64] k9
  have hf10 : ∀ k ∈ (((((((((L ++ [55]) ++ [56]) ++ [57]) ++ [58]) ++ [59]) ++ [60]) ++ [61]) ++ [62]) ++ [63]) ++ [64], ¬ (64 < k ∧ k < 65) := fun k hk9 h9 => by
    rcases List.mem_append.mp hk9 with z | z
    · exact hf9 k z (by omega)
    · have := List.mem_singleton.mp z; omega
  have b10 : ∀ j ∈ L, ad10 j = ad j := fun j hj9 => (a10 j (List.mem_append_left _ (List.mem_append_left _ (List.mem_append_left _ (List.mem_append_left _ (List.mem_append_left _ (List.mem_append_left _ (List.mem_append_left _ (List.mem_append_left _ (List.mem_append_left _ (hj9))))))))))).trans (b9 j hj9)
  refine gC_ret hC10 rfl (by simp [nks]) b10 cl10 ⟨⟨rfl, rfl, rfl, rfl, rfl, rfl, rfl, rfl, rfl, rfl, rfl⟩, fun k hk9 => ?_⟩ (by decide) (by decide)
  rw [va_up_ne _ _ (by omega), va_up_ne _ _ (by omega), va_up_ne _ _ (by omega), va_up_ne _ _ (by omega), va_up_ne _ _ (by omega), va_up_ne _ _ (by omega), va_up_ne _ _ (by omega), va_up_ne _ _ (by omega), va_up_ne _ _ (by omega), va_up_ne _ _ (by omega), va_up_ne _ _ (by omega), va_up_ne _ _ (by omega), va_up_ne _ _ (by omega), va_up_ne _ _ (by omega), va_up_ne _ _ (by omega), va_up_ne _ _ (by omega), va_up_ne _ _ (by omega), va_up_ne _ _ (by omega), va_up_ne _ _ (by omega), va_up_ne _ _ (by omega)]
end
