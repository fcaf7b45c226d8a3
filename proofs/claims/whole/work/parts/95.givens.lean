/-! THE ENTRY, 2: what nobody writes, out of what is given of the start -/
theorem eqi_of {args : Array Value} {s : State} {t : Term} {x : Int32} (h : (Cond.eq t (.int x)).before args s = true) : t.eval args s none [] s = some (.int x) := by
  simp only [Cond.before, Cond.holds, Cond.value, Term.eval] at h
  cases ht : t.eval args s none [] s with
  | none => simp [ht] at h
  | some w => cases w <;> simp [ht] at h; rw [h]
theorem arrAt_of {s : State} {a : Nat} {cell : Cell} (h : s.arrayAt? a = some cell) : s.heap[a]? = some cell := by
  unfold State.arrayAt? at h
  simp only [Option.bind_eq_bind, Option.bind_eq_some_iff] at h
  obtain ⟨c, h1, k, h2, h3⟩ := h
  by_cases hu : c.vm = .unknown ∨ c.vm.isStatics = true
  · rw [if_pos hu] at h3
    cases h3
  · rw [if_neg hu] at h3
    cases hk : k.kind with
    | array x y => rw [hk] at h3; cases h3; exact h1
    | _ => rw [hk] at h3; cases h3
theorem tbl_of {args : Array Value} {s : State} {t : Term} {ty : FieldType} {L : List Int} {A : Nat → Prop} (hn : 0 < L.length) (hm : L.length ≤ 1000) (hA : ∀ a : Nat, a < s.heap.size → ¬ A a)
    (ha : (Cond.arrayOf t ty).before args s = true) (hl : (Cond.eq (.length t) (.int (Int32.ofNat L.length))).before args s = true)
    (he : ∀ j, j < L.length → (Cond.eq (.elem t (.int (Int32.ofNat j))) (.int (Int32.ofInt (L.getD j 0)))).before args s = true) :
    ∃ a, t.eval args s none [] s = some (.ref a) ∧ va_T ty a L.length (fun j => .int (Int32.ofInt (L.getD j 0))) A s s.heap := by
  obtain ⟨a, cell, h1, h2, h3⟩ := Term.length_spec (eqi_of hl)
  have hc := arrAt_of h2
  have hu := Cond.arrayOf_spec ha h1 hc
  have hx : ∀ j, j < L.length → j < cell.slots.size ∧ cell.slots[j]? = some (.int (Int32.ofInt (L.getD j 0))) := by
    intro j hj
    obtain ⟨a', j', cell', g1, g2, g3, g4, g5⟩ := Term.elem_spec (eqi_of (he j hj))
    rw [h1] at g1
    cases g1
    rw [h2] at g3
    cases g3
    simp only [Term.eval, Option.some.injEq, Value.int.injEq] at g2
    subst g2
    have e : (Int32.ofNat j).toNatClampNeg = j := by
      rw [Int32.toNatClampNeg, Int32.toInt_ofNat_of_lt (by omega)]
      omega
    rw [e] at g4 g5
    exact ⟨by omega, g5⟩
  refine ⟨a, h1, cell, hc, hu.1, hu.2, ?_, ?_, fun j hj => (hx j hj).2, hA a (Array.getElem?_eq_some_iff.mp hc).1⟩
  · have := (hx (L.length - 1) (by omega)).1
    omega
  · simp only [Value.int.injEq] at h3
    exact h3.symm
theorem fld_of {args : Array Value} {s : State} {t : Term} {o n d : String} {a : Nat} {v : Value} {A : Nat → Prop} (hA : ∀ a : Nat, a < s.heap.size → ¬ A a) (ht : t.eval args s none [] s = some (.ref a)) (h : (Term.field t o n d).eval args s none [] s = some v) : va_OF o n d v a A s s.heap := by
  cases hf : s.fieldFound? o n d with
  | none => simp [Term.eval, ht, State.fieldOf?, State.fieldNamed?, hf] at h
  | some q =>
    obtain ⟨c, k, i, f⟩ := q
    obtain ⟨h1, cell, h2, h3, h4, h5, h6⟩ := Term.field_spec hf ht h
    exact ⟨c, k, i, f, cell, hf, h1, h2, h3, h6, hA a (Array.getElem?_eq_some_iff.mp h2).1⟩
/-- a String constant of the class, its text L (bytes) -/
theorem str_of {args : Array Value} {s : State} {C tx : String} {k : Nat} {cc : Nat} {L : List Int} {A : Nat → Prop} (hC : s.vm.findClass C = some cc) (hn : 0 < L.length) (hm : L.length ≤ 1000) (hA : ∀ a : Nat, a < s.heap.size → ¬ A a)
    (h0 : (Cond.stringRef C k tx).before args s = true) (h1 : (Cond.exactly (.string C k) "java/lang/String").before args s = true)
    (h2 : (Cond.eq (.field (.string C k) "java/lang/String" "coder" "B") (.int 0)).before args s = true)
    (ha : (Cond.arrayOf (.field (.string C k) "java/lang/String" "value" "[B") .byte).before args s = true)
    (hl : (Cond.eq (.length (.field (.string C k) "java/lang/String" "value" "[B")) (.int (Int32.ofNat L.length))).before args s = true)
    (he : ∀ j, j < L.length → (Cond.eq (.elem (.field (.string C k) "java/lang/String" "value" "[B") (.int (Int32.ofNat j))) (.int (Int32.ofInt (L.getD j 0)))).before args s = true) :
    ∃ a t, vk_R C k tx a s ∧ va_O "java/lang/String" a A s s.heap ∧ va_OF "java/lang/String" "coder" "B" (.int 0) a A s s.heap ∧ va_OF "java/lang/String" "value" "[B" (.ref t) a A s s.heap ∧ va_T .byte t L.length (fun j => .int (Int32.ofInt (L.getD j 0))) A s s.heap := by
  have h0' : (Cond.stringRef C k tx).before #[] s = true := by
    simp only [Cond.before, Cond.holds, Cond.value] at h0 ⊢
    exact h0
  obtain ⟨_, _, _, a, _, _, _, _, _, g6⟩ := Cond.stringRef_spec hC h0
  obtain ⟨_, _, _, a0, _, _, _, _, _, g60⟩ := Cond.stringRef_spec hC h0'
  have e : a0 = a := by
    have : (Term.string C k).eval args s none [] s = (Term.string C k).eval #[] s none [] s := rfl
    rw [g6, g60] at this
    cases this
    rfl
  subst e
  obtain ⟨a1, c1, cell, k1, e1, e2, e3, e4, e5, e6, e7⟩ := Cond.exactly_spec h1
  rw [g6] at e1
  cases e1
  obtain ⟨t, ht, hT⟩ := tbl_of (A := A) hn hm hA ha hl he
  refine ⟨a0, t, ⟨h0', g60⟩, ⟨cell, e3, e5, ?_, hA _ (Array.getElem?_eq_some_iff.mp e3).1⟩, fld_of hA g6 (eqi_of h2), fld_of hA g6 ht, hT⟩
  rw [e6]
  exact e2
/-- the same String constant, seen from another class -/
theorem str_eq {args : Array Value} {s : State} {C C' tx tx' : String} {k k' a : Nat} {cc : Nat} (hC : s.vm.findClass C' = some cc) (h : vk_R C k tx a s) (h0 : (Cond.stringRef C' k' tx').before args s = true) (he : (Cond.eq (.string C k) (.string C' k')).before args s = true) : vk_R C' k' tx' a s := by
  have h0' : (Cond.stringRef C' k' tx').before #[] s = true := by
    simp only [Cond.before, Cond.holds, Cond.value] at h0 ⊢
    exact h0
  obtain ⟨_, _, _, a1, _, _, _, _, _, g6⟩ := Cond.stringRef_spec hC h0'
  refine ⟨h0', ?_⟩
  have q1 : (Term.string C k).eval args s none [] s = some (.ref a) := h.2
  have q2 : (Term.string C' k').eval args s none [] s = some (.ref a1) := g6
  simp only [Cond.before, Cond.holds, Cond.value, q1, q2] at he
  have : a = a1 := by simpa using he
  rw [this]
  exact g6
