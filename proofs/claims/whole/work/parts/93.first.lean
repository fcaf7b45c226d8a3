/-! the state behind both constructors keeps what is kept -/
theorem lkR_mem : ∀ (L : List (Nat × Nat × Nat)) (x y b : Nat), lkR L x y = some b → (x, y, b) ∈ L
  | [], _, _, _, h => nomatch h
  | e :: t, x, y, b, h => by
    simp only [lkR] at h
    split at h
    · rename_i hc
      obtain ⟨rfl, rfl⟩ := hc
      cases h
      exact List.mem_cons_self
    · exact List.mem_cons_of_mem _ (lkR_mem t x y b h)
theorem lkI_rng : ∀ (L : List (Nat × Nat × Int)), L.all (fun e => decide (-1 ≤ e.2.2 ∧ e.2.2 ≤ 100)) = true → ∀ x y, -1 ≤ lkI L x y ∧ lkI L x y ≤ 100
  | [], _, _, _ => ⟨(by decide : (-1 : Int) ≤ 0), (by decide : (0 : Int) ≤ 100)⟩
  | e :: t, h, x, y => by
    simp only [List.all_cons, Bool.and_eq_true, decide_eq_true_eq] at h
    simp only [lkI]
    split
    · exact h.1
    · exact lkI_rng t h.2 x y
theorem MR_out {a k : Nat} (h : 158 ≤ a) : MR a k = none := by
  have h1 : MRT.length ≤ 158 := by decide +kernel
  have h2 : MRT.getD a [] = [] := by rw [List.getD_eq_getElem?_getD, List.getElem?_eq_none (by omega)]; rfl
  unfold MR
  rw [h2]
  rfl
theorem MR_out2 {a k : Nat} (h : (MRT.getD a []).length ≤ k) : MR a k = none := by
  unfold MR
  rw [List.getD_eq_getElem?_getD, List.getElem?_eq_none h]
  rfl
theorem first_refs : ∀ a, a < 158 → ∀ k, k < (MRT.getD a []).length → (MR a k).isSome = true → (lkR refL a k).isSome = true := by decide +kernel
theorem first_refs2 : ∀ e ∈ refL, MR e.1 e.2.1 = some e.2.2 := by decide +kernel
theorem first_sh : Sh (stK 158 0 0) := by
  refine ⟨by decide +kernel, fun a k _ => ?_, fun a k => ?_, fun a k => ⟨(by decide : (-9223372036854775808 : Int) ≤ 0), (by decide : (0 : Int) ≤ 9223372036854775807)⟩, ?_⟩
  · show lkR refL a k = MR a k
    cases hc : lkR refL a k with
    | some b => exact (first_refs2 _ (lkR_mem refL a k b hc)).symm
    | none =>
      cases hm : MR a k with
      | none => rfl
      | some b =>
        exfalso
        have ha : a < 158 := Nat.lt_of_not_le (fun h => by rw [MR_out h] at hm; cases hm)
        have hk : k < (MRT.getD a []).length := Nat.lt_of_not_le (fun h => by rw [MR_out2 h] at hm; cases hm)
        have := first_refs a ha k hk (by rw [hm]; rfl)
        rw [hc] at this
        cases this
  · have h := lkI_rng intL (by decide +kernel) a k
    show -2147483648 ≤ lkI intL a k ∧ lkI intL a k ≤ 2147483647
    omega
  · rintro r ⟨y, hy, h⟩
    rcases hy with rfl | rfl | rfl <;> rcases h with rfl | rfl | rfl <;> decide +kernel
set_option maxRecDepth 100000 in
theorem first_inv : Inv (stK 158 0 0) := by
  have z : ∀ {c : Int}, c = 0 → ∀ (i : Nat) {P : Prop}, (i : Int) < c → P := fun h i _ hi => absurd hi (by omega)
  refine ⟨first_sh, ⟨⟨by decide +kernel, by decide +kernel, by decide +kernel, by decide +kernel, by decide +kernel, by decide +kernel⟩, ⟨by decide +kernel, by decide +kernel, by decide +kernel, by decide +kernel, by decide +kernel, by decide +kernel, fun q hq => ⟨?_, ?_, ?_, fun h => z (by decide +kernel) q h⟩, ⟨by decide +kernel, fun i h => z (by decide +kernel) i h⟩, ⟨by decide +kernel, fun i h => z (by decide +kernel) i h⟩, ⟨by decide +kernel, fun i h => z (by decide +kernel) i h⟩⟩, by decide +kernel⟩, ⟨by decide +kernel, by decide +kernel, fun h => absurd h (by decide +kernel)⟩, ⟨by decide +kernel, by decide +kernel, by decide +kernel, fun b h => z (by decide +kernel) b h⟩, ⟨by decide +kernel, by decide +kernel, fun i h => z (by decide +kernel) i h⟩, ?_, ⟨by decide +kernel, by decide +kernel, fun i _ h => z (by decide +kernel) i h⟩⟩
  · exact (by decide +kernel : ∀ q, q < 6 → 0 ≤ (stK 158 0 0).2.1 131 q ∧ (stK 158 0 0).2.1 131 q < 4096) q hq
  · exact (by decide +kernel : ∀ q, q < 6 → 0 ≤ (stK 158 0 0).2.1 132 q ∧ (stK 158 0 0).2.1 132 q ≤ 99) q hq
  · exact (by decide +kernel : ∀ q, q < 6 → 0 ≤ (stK 158 0 0).2.1 133 q ∧ (stK 158 0 0).2.1 133 q ≤ 2) q hq
  · unfold InvE
    decide +kernel
