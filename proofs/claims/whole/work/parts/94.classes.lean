/-! THE ENTRY, 1: the classes and the arrays, out of the tables' words -/
theorem arr_prim {s : State} {args : Array Value} {ty : FieldType} (hn : ∀ C, ty ≠ .object C) (h : (Cond.arrayClass ty).before args s = true) : ∃ cA : ClassId, ArrOfT s cA ty ∧ va_RA s cA ty := by
  obtain ⟨c, k, comp, h1, h2, h3⟩ := Cond.arrayClass_spec h
  refine ⟨c, fun n z => ⟨fun k h => (by cases h), k, h2, comp, h3⟩, ?_⟩
  cases ty with
  | object C => exact absurd rfl (hn C)
  | _ => exact h1
theorem arr_obj {s : State} {args : Array Value} {C : String} (h : (Cond.arrayOver (.object C)).before args s = true) : ∃ cA : ClassId, ArrOfT s cA (.object C) ∧ va_RA s cA (.object C) := by
  obtain ⟨comp, c, k, h1, h2, h3, h4, h5⟩ := Cond.arrayOver_spec h
  exact ⟨c, fun n z => ⟨fun k h => (by cases h), k, h3, comp, h4⟩, k, comp, h3, h4, h1, h5⟩
theorem start_cls {s : State} {args : Array Value} (hts : ∀ w ∈ mT, w.before args s = true) : ∃ D : va_G, ∀ (k : Nat) (q : vw_C), vwCl[k]? = some q → u_Kn s q.1 q.2.1 q.2.2 (D.1 k) (D.2 k) := by
  have key : ∀ {ci : Nat} {C : String} {T : u_T} {N : Nat} {ty : Nat → FieldType}, mCls ci C T N ty → Cond.instantiable C N ∈ mT → ∃ (cC : ClassId) (iS : Nat → Nat), ∀ q : vw_C, vwCl[ci]? = some q → u_Kn s q.1 q.2.1 q.2.2 cC iS := by
    intro ci C T N ty hM hI
    obtain ⟨cC, iS, h⟩ := u_known hts hM.2.1 (hts _ hI)
    refine ⟨cC, iS, fun q hq => ?_⟩
    rw [hM.1] at hq
    cases hq
    exact h
  have all : ∀ k : Nat, ∃ (cC : ClassId) (iS : Nat → Nat), ∀ q : vw_C, vwCl[k]? = some q → u_Kn s q.1 q.2.1 q.2.2 cC iS := by
    intro k
    match k with
    | 0 => exact key mc0 in_0
    | 1 => exact key mc1 in_1
    | 2 => exact key mc2 in_2
    | 3 => exact key mc3 in_3
    | 4 => exact key mc4 in_4
    | 5 => exact key mc5 in_5
    | 6 => exact key mc6 in_6
    | 7 => exact key mc7 in_7
    | 8 => exact key mc8 in_8
    | 9 => exact key mc9 in_9
    | 10 => exact key mc10 in_10
    | 11 => exact key mc11 in_11
    | k + 12 =>
      refine ⟨0, fun _ => 0, fun q hq => ?_⟩
      have hl : vwCl.length ≤ 12 := by decide
      rw [List.getElem?_eq_none (by omega)] at hq
      cases hq
  exact ⟨(fun k => (all k).choose, fun k => (all k).choose_spec.choose), fun k q hq => (all k).choose_spec.choose_spec q hq⟩
theorem start_arr {s : State} {args : Array Value} (hts : ∀ w ∈ lw_tbl, w.before args s = true) : ∃ f : Nat → ClassId, ∀ t, t < 8 → ArrOfT s (f t) (mty t) ∧ va_RA s (f t) (mty t) := by
  have all : ∀ t, ∃ cA : ClassId, t < 8 → ArrOfT s cA (mty t) ∧ va_RA s cA (mty t) := by
    intro t
    match t with
    | 0 => obtain ⟨c, h⟩ := arr_prim (ty := .int) (fun _ h => by cases h) (hts (.arrayClass .int) (by decide +kernel)); exact ⟨c, fun _ => h⟩
    | 1 => obtain ⟨c, h⟩ := arr_prim (ty := .byte) (fun _ h => by cases h) (hts (.arrayClass .byte) (by decide +kernel)); exact ⟨c, fun _ => h⟩
    | 2 => obtain ⟨c, h⟩ := arr_prim (ty := .boolean) (fun _ h => by cases h) (hts (.arrayClass .boolean) (by decide +kernel)); exact ⟨c, fun _ => h⟩
    | 3 => obtain ⟨c, h⟩ := arr_prim (ty := .long) (fun _ h => by cases h) (hts (.arrayClass .long) (by decide +kernel)); exact ⟨c, fun _ => h⟩
    | 4 => obtain ⟨c, h⟩ := arr_obj (hts (.arrayOver (.object RX3)) (by decide +kernel)); exact ⟨c, fun _ => h⟩
    | 5 => obtain ⟨c, h⟩ := arr_obj (hts (.arrayOver (.object RX4)) (by decide +kernel)); exact ⟨c, fun _ => h⟩
    | 6 => obtain ⟨c, h⟩ := arr_obj (hts (.arrayOver (.object RX1)) (by decide +kernel)); exact ⟨c, fun _ => h⟩
    | 7 => obtain ⟨c, h⟩ := arr_obj (hts (.arrayOver (.object RX8)) (by decide +kernel)); exact ⟨c, fun _ => h⟩
    | t + 8 => exact ⟨0, fun h => absurd h (by omega)⟩
  exact ⟨fun t => (all t).choose, fun t => (all t).choose_spec⟩
theorem start_K {s : State} {args : Array Value} (hts : ∀ w ∈ lw_tbl, w.before args s = true) : ∃ (D : va_G) (f : Nat → ClassId), ∀ (h : Nat) (r : Nat → Option Nat), va_K D vwCl (mTys (D, f, h, r)) s := by
  obtain ⟨D, hD⟩ := start_cls (s := s) (args := args) (fun w hw => hts w (List.mem_filter.mp hw).1)
  obtain ⟨f, hf⟩ := start_arr hts
  refine ⟨D, f, fun h r => ⟨hD, fun k q hk => ?_⟩⟩
  by_cases h8 : k < 8
  · rw [mTys_at _ h8] at hk
    cases hk
    exact hf k h8
  · have hl : (mTys (D, f, h, r)).length = 8 := rfl
    rw [List.getElem?_eq_none (by omega)] at hk
    cases hk
