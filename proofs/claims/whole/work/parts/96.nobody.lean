/-! THE ENTRY, 3: what nobody writes, at the entry (written by wip/whole/gen96.py) -/
theorem gv_s1 {b : Nat} {s : State} {A : Nat → Prop} (hts : ∀ w ∈ lw_tbl, w.before #[Value.ref b] s = true) (hs : ∀ c ∈ flatC (Jvm.Cond.and given_1 narrow_1), c.before #[Value.ref b] s = true) (hA : ∀ a : Nat, a < s.heap.size → ¬ A a) : ∃ a t, vk_R RX5 55 "keen " a s ∧ va_O "java/lang/String" a A s s.heap ∧ va_OF "java/lang/String" "coder" "B" (.int 0) a A s s.heap ∧ va_OF "java/lang/String" "value" "[B" (.ref t) a A s s.heap ∧ va_T .byte t 5 (fun j => .int (Int32.ofInt (([107, 101, 101, 110, 32] : List Int).getD j 0))) A s s.heap := by
  obtain ⟨cC, kC, hC, -⟩ := Cond.instantiable_spec (hts (.instantiable RX5 6) (by decide +kernel))
  exact str_of (L := [107, 101, 101, 110, 32]) hC (by decide) (by decide) hA (hts (.stringRef RX5 55 "keen ") (by decide +kernel)) (hs _ (by decide +kernel)) (hs _ (by decide +kernel)) (hs _ (by decide +kernel)) (hs _ (by decide +kernel)) (fun j hj => hs _ ((by decide +kernel : ∀ j, j < 5 → Cond.eq (.elem (.field (.string RX5 55) "java/lang/String" "value" "[B") (.int (Int32.ofNat j))) (.int (Int32.ofInt (([107, 101, 101, 110, 32] : List Int).getD j 0))) ∈ flatC (Jvm.Cond.and given_1 narrow_1)) j hj))
theorem gv_s5 {b : Nat} {s : State} {A : Nat → Prop} (hts : ∀ w ∈ lw_tbl, w.before #[Value.ref b] s = true) (hs : ∀ c ∈ flatC (Jvm.Cond.and given_1 narrow_1), c.before #[Value.ref b] s = true) (hA : ∀ a : Nat, a < s.heap.size → ¬ A a) : ∃ a t, vk_R RX5 57 "dull " a s ∧ va_O "java/lang/String" a A s s.heap ∧ va_OF "java/lang/String" "coder" "B" (.int 0) a A s s.heap ∧ va_OF "java/lang/String" "value" "[B" (.ref t) a A s s.heap ∧ va_T .byte t 5 (fun j => .int (Int32.ofInt (([100, 117, 108, 108, 32] : List Int).getD j 0))) A s s.heap := by
  obtain ⟨cC, kC, hC, -⟩ := Cond.instantiable_spec (hts (.instantiable RX5 6) (by decide +kernel))
  exact str_of (L := [100, 117, 108, 108, 32]) hC (by decide) (by decide) hA (hts (.stringRef RX5 57 "dull ") (by decide +kernel)) (hs _ (by decide +kernel)) (hs _ (by decide +kernel)) (hs _ (by decide +kernel)) (hs _ (by decide +kernel)) (fun j hj => hs _ ((by decide +kernel : ∀ j, j < 5 → Cond.eq (.elem (.field (.string RX5 57) "java/lang/String" "value" "[B") (.int (Int32.ofNat j))) (.int (Int32.ofInt (([100, 117, 108, 108, 32] : List Int).getD j 0))) ∈ flatC (Jvm.Cond.and given_1 narrow_1)) j hj))
theorem gv_s6 {b : Nat} {s : State} {A : Nat → Prop} (hts : ∀ w ∈ lw_tbl, w.before #[Value.ref b] s = true) (hs : ∀ c ∈ flatC (Jvm.Cond.and given_1 narrow_1), c.before #[Value.ref b] s = true) (hA : ∀ a : Nat, a < s.heap.size → ¬ A a) : ∃ a t, vk_R RX5 59 "rest " a s ∧ va_O "java/lang/String" a A s s.heap ∧ va_OF "java/lang/String" "coder" "B" (.int 0) a A s s.heap ∧ va_OF "java/lang/String" "value" "[B" (.ref t) a A s s.heap ∧ va_T .byte t 5 (fun j => .int (Int32.ofInt (([114, 101, 115, 116, 32] : List Int).getD j 0))) A s s.heap := by
  obtain ⟨cC, kC, hC, -⟩ := Cond.instantiable_spec (hts (.instantiable RX5 6) (by decide +kernel))
  exact str_of (L := [114, 101, 115, 116, 32]) hC (by decide) (by decide) hA (hts (.stringRef RX5 59 "rest ") (by decide +kernel)) (hs _ (by decide +kernel)) (hs _ (by decide +kernel)) (hs _ (by decide +kernel)) (hs _ (by decide +kernel)) (fun j hj => hs _ ((by decide +kernel : ∀ j, j < 5 → Cond.eq (.elem (.field (.string RX5 59) "java/lang/String" "value" "[B") (.int (Int32.ofNat j))) (.int (Int32.ofInt (([114, 101, 115, 116, 32] : List Int).getD j 0))) ∈ flatC (Jvm.Cond.and given_1 narrow_1)) j hj))
theorem gv_s2 {b : Nat} {s : State} {A : Nat → Prop} (hts : ∀ w ∈ lw_tbl, w.before #[Value.ref b] s = true) (hs : ∀ c ∈ flatC (Jvm.Cond.and given_1 narrow_1), c.before #[Value.ref b] s = true) (hA : ∀ a : Nat, a < s.heap.size → ¬ A a) : ∃ a t, vk_R RX5 80 "0123456789" a s ∧ va_O "java/lang/String" a A s s.heap ∧ va_OF "java/lang/String" "coder" "B" (.int 0) a A s s.heap ∧ va_OF "java/lang/String" "value" "[B" (.ref t) a A s s.heap ∧ va_T .byte t 10 (fun j => .int (Int32.ofInt (([48, 49, 50, 51, 52, 53, 54, 55, 56, 57] : List Int).getD j 0))) A s s.heap := by
  obtain ⟨cC, kC, hC, -⟩ := Cond.instantiable_spec (hts (.instantiable RX5 6) (by decide +kernel))
  exact str_of (L := [48, 49, 50, 51, 52, 53, 54, 55, 56, 57]) hC (by decide) (by decide) hA (hts (.stringRef RX5 80 "0123456789") (by decide +kernel)) (hs _ (by decide +kernel)) (hs _ (by decide +kernel)) (hs _ (by decide +kernel)) (hs _ (by decide +kernel)) (fun j hj => hs _ ((by decide +kernel : ∀ j, j < 10 → Cond.eq (.elem (.field (.string RX5 80) "java/lang/String" "value" "[B") (.int (Int32.ofNat j))) (.int (Int32.ofInt (([48, 49, 50, 51, 52, 53, 54, 55, 56, 57] : List Int).getD j 0))) ∈ flatC (Jvm.Cond.and given_1 narrow_1)) j hj))
theorem gv_s3 {b : Nat} {s : State} {A : Nat → Prop} (hts : ∀ w ∈ lw_tbl, w.before #[Value.ref b] s = true) (hs : ∀ c ∈ flatC (Jvm.Cond.and given_1 narrow_1), c.before #[Value.ref b] s = true) (hA : ∀ a : Nat, a < s.heap.size → ¬ A a) : ∃ a t, vk_R RX5 95 "pkvtnh" a s ∧ va_O "java/lang/String" a A s s.heap ∧ va_OF "java/lang/String" "coder" "B" (.int 0) a A s s.heap ∧ va_OF "java/lang/String" "value" "[B" (.ref t) a A s s.heap ∧ va_T .byte t 6 (fun j => .int (Int32.ofInt (([112, 107, 118, 116, 110, 104] : List Int).getD j 0))) A s s.heap := by
  obtain ⟨cC, kC, hC, -⟩ := Cond.instantiable_spec (hts (.instantiable RX5 6) (by decide +kernel))
  exact str_of (L := [112, 107, 118, 116, 110, 104]) hC (by decide) (by decide) hA (hts (.stringRef RX5 95 "pkvtnh") (by decide +kernel)) (hs _ (by decide +kernel)) (hs _ (by decide +kernel)) (hs _ (by decide +kernel)) (hs _ (by decide +kernel)) (fun j hj => hs _ ((by decide +kernel : ∀ j, j < 6 → Cond.eq (.elem (.field (.string RX5 95) "java/lang/String" "value" "[B") (.int (Int32.ofNat j))) (.int (Int32.ofInt (([112, 107, 118, 116, 110, 104] : List Int).getD j 0))) ∈ flatC (Jvm.Cond.and given_1 narrow_1)) j hj))
theorem gv_s4 {b : Nat} {s : State} {A : Nat → Prop} (hts : ∀ w ∈ lw_tbl, w.before #[Value.ref b] s = true) (hs : ∀ c ∈ flatC (Jvm.Cond.and given_1 narrow_1), c.before #[Value.ref b] s = true) (hA : ∀ a : Nat, a < s.heap.size → ¬ A a) : ∃ a t, vk_R RX5 97 "<=>" a s ∧ va_O "java/lang/String" a A s s.heap ∧ va_OF "java/lang/String" "coder" "B" (.int 0) a A s s.heap ∧ va_OF "java/lang/String" "value" "[B" (.ref t) a A s s.heap ∧ va_T .byte t 3 (fun j => .int (Int32.ofInt (([60, 61, 62] : List Int).getD j 0))) A s s.heap := by
  obtain ⟨cC, kC, hC, -⟩ := Cond.instantiable_spec (hts (.instantiable RX5 6) (by decide +kernel))
  exact str_of (L := [60, 61, 62]) hC (by decide) (by decide) hA (hts (.stringRef RX5 97 "<=>") (by decide +kernel)) (hs _ (by decide +kernel)) (hs _ (by decide +kernel)) (hs _ (by decide +kernel)) (hs _ (by decide +kernel)) (fun j hj => hs _ ((by decide +kernel : ∀ j, j < 3 → Cond.eq (.elem (.field (.string RX5 97) "java/lang/String" "value" "[B") (.int (Int32.ofNat j))) (.int (Int32.ofInt (([60, 61, 62] : List Int).getD j 0))) ∈ flatC (Jvm.Cond.and given_1 narrow_1)) j hj))
theorem gv_ABOVE {b : Nat} {s : State} {A : Nat → Prop} (hts : ∀ w ∈ lw_tbl, w.before #[Value.ref b] s = true) (hs : ∀ c ∈ flatC (Jvm.Cond.and given_1 narrow_1), c.before #[Value.ref b] s = true) (hA : ∀ a : Nat, a < s.heap.size → ¬ A a) : ∃ a, va_Z RX0 "ABOVE" "[I" (.ref a) A s s.heap ∧ va_T .int a 7 (fun j => .int (Int32.ofInt (([-1, 0, 0, 0, 1, 2, 3] : List Int).getD j 0))) A s s.heap := by
  obtain ⟨a, h1, h2⟩ := tbl_of (t := .static RX0 "ABOVE" "[I") (L := [-1, 0, 0, 0, 1, 2, 3]) (A := A) (by decide) (by decide) hA (hs (Cond.arrayOf _ .int) (by decide +kernel)) (hs _ (by decide +kernel)) (fun j hj => hs _ ((by decide +kernel : ∀ j, j < 7 → Cond.eq (.elem (.static RX0 "ABOVE" "[I") (.int (Int32.ofNat j))) (.int (Int32.ofInt (([-1, 0, 0, 0, 1, 2, 3] : List Int).getD j 0))) ∈ flatC (Jvm.Cond.and given_1 narrow_1)) j hj))
  exact ⟨a, va_Zof (hts (.laysStatic RX0 "ABOVE" "[I") (by decide +kernel)) (hts (.initialized RX0) (by decide +kernel)) h1 hA, h2⟩
theorem gv_BODIES {b : Nat} {s : State} {A : Nat → Prop} (hts : ∀ w ∈ lw_tbl, w.before #[Value.ref b] s = true) (hs : ∀ c ∈ flatC (Jvm.Cond.and given_1 narrow_1), c.before #[Value.ref b] s = true) (hA : ∀ a : Nat, a < s.heap.size → ¬ A a) : ∃ a, va_Z RX0 "BODIES" "[I" (.ref a) A s s.heap ∧ va_T .int a 21 (fun j => .int (Int32.ofInt (([10, 11, 12, 0, 20, 0, 30, 0, 0, 0, 0, 40, 50, 51, 0, 0, 0, 60, 71, 70, 0] : List Int).getD j 0))) A s s.heap := by
  obtain ⟨a, h1, h2⟩ := tbl_of (t := .static RX0 "BODIES" "[I") (L := [10, 11, 12, 0, 20, 0, 30, 0, 0, 0, 0, 40, 50, 51, 0, 0, 0, 60, 71, 70, 0]) (A := A) (by decide) (by decide) hA (hs (Cond.arrayOf _ .int) (by decide +kernel)) (hs _ (by decide +kernel)) (fun j hj => hs _ ((by decide +kernel : ∀ j, j < 21 → Cond.eq (.elem (.static RX0 "BODIES" "[I") (.int (Int32.ofNat j))) (.int (Int32.ofInt (([10, 11, 12, 0, 20, 0, 30, 0, 0, 0, 0, 40, 50, 51, 0, 0, 0, 60, 71, 70, 0] : List Int).getD j 0))) ∈ flatC (Jvm.Cond.and given_1 narrow_1)) j hj))
  exact ⟨a, va_Zof (hts (.laysStatic RX0 "BODIES" "[I") (by decide +kernel)) (hts (.initialized RX0) (by decide +kernel)) h1 hA, h2⟩
theorem gv_sio {b : Nat} {s : State} {A : Nat → Prop} (hts : ∀ w ∈ lw_tbl, w.before #[Value.ref b] s = true) (hs : ∀ c ∈ flatC (Jvm.Cond.and given_1 narrow_1), c.before #[Value.ref b] s = true) (hA : ∀ a : Nat, a < s.heap.size → ¬ A a) : ∃ r : Option Nat, va_Z "jdk/internal/util/Preconditions" "SIOOBE_FORMATTER" "Ljava/util/function/BiFunction;" (va_rf r) A s s.heap := by
  rcases va_Zqof (A := A) (hts (.laysStatic "jdk/internal/util/Preconditions" "SIOOBE_FORMATTER" "Ljava/util/function/BiFunction;") (by decide +kernel)) (hts (.initialized "jdk/internal/util/Preconditions") (by decide +kernel)) (hs _ (by decide +kernel)) hA with h | ⟨t, h⟩
  · exact ⟨none, h⟩
  · exact ⟨some t, h⟩
theorem gv_nf {b : Nat} {s : State} (hts : ∀ w ∈ lw_tbl, w.before #[Value.ref b] s = true) : ∀ q ∈ mNF, va_Nw (.fieldLinkNest q.1 q.2.1 q.2.2.1 q.2.2.2.1 q.2.2.2.2.1 q.2.2.2.2.2) s :=
  fun q hq => va_tabs (A := #[Value.ref b]) rfl rfl (hts _ ((by decide +kernel : ∀ q ∈ mNF, Cond.fieldLinkNest q.1 q.2.1 q.2.2.1 q.2.2.2.1 q.2.2.2.2.1 q.2.2.2.2.2 ∈ lw_tbl) q hq))
theorem gv_nm {b : Nat} {s : State} (hts : ∀ w ∈ lw_tbl, w.before #[Value.ref b] s = true) : ∀ q ∈ mNM, va_Nw (.methodLinkNest q.1 q.2.1 q.2.2.1 q.2.2.2) s :=
  fun q hq => va_tabs (A := #[Value.ref b]) rfl rfl (hts _ ((by decide +kernel : ∀ q ∈ mNM, Cond.methodLinkNest q.1 q.2.1 q.2.2.1 q.2.2.2 ∈ lw_tbl) q hq))
theorem gv_ao {b : Nat} {s : State} (hts : ∀ w ∈ lw_tbl, w.before #[Value.ref b] s = true) : ∀ C ∈ mAO, va_AO C s :=
  fun C hC => va_AO.of (hts _ ((by decide +kernel : ∀ C ∈ mAO, Cond.arrayOver (.object C) ∈ lw_tbl) C hC))
theorem start_RO {b L : Nat} {xs : Nat → Int32} {s : State} (hts : ∀ w ∈ lw_tbl, w.before #[Value.ref b] s = true) (hs : ∀ c ∈ flatC (Jvm.Cond.and given_1 narrow_1), c.before #[Value.ref b] s = true) (hX : va_X b L xs s s.heap) (hbl : b < s.heap.size) : ∃ r : Nat → Option Nat, r 0 = some b ∧ ∀ (D : va_G) (f : Nat → ClassId), mRO (L, fun j => (xs j).toInt) (D, f, s.heap.size, r) s := by
  have hA : ∀ a : Nat, a < s.heap.size → ¬ (fun q : Nat => s.heap.size ≤ q) a := fun a h1 h2 => by simp only at h2; omega
  obtain ⟨cM, kM, hM, -⟩ := Cond.instantiable_spec (hts (.instantiable RX11 49) (by decide +kernel))
  obtain ⟨a1, t1, v1, o1, c1, w1, T1⟩ := gv_s1 hts hs hA
  obtain ⟨a5, t5, v5, o5, c5, w5, T5⟩ := gv_s5 hts hs hA
  obtain ⟨a6, t6, v6, o6, c6, w6, T6⟩ := gv_s6 hts hs hA
  obtain ⟨a2, t2, v2, o2, c2, w2, T2⟩ := gv_s2 hts hs hA
  obtain ⟨a3, t3, v3, o3, c3, w3, T3⟩ := gv_s3 hts hs hA
  obtain ⟨a4, t4, v4, o4, c4, w4, T4⟩ := gv_s4 hts hs hA
  obtain ⟨aA, zA, TA⟩ := gv_ABOVE hts hs hA
  obtain ⟨aB, zB, TB⟩ := gv_BODIES hts hs hA
  obtain ⟨r9, z9⟩ := gv_sio hts hs hA
  have m1 := str_eq (k' := 214) hM v1 (hts (.stringRef RX11 214 "keen ") (by decide +kernel)) (hs (Cond.eq (.string RX5 55) (.string RX11 214)) (by decide +kernel))
  have m5 := str_eq (k' := 220) hM v5 (hts (.stringRef RX11 220 "dull ") (by decide +kernel)) (hs (Cond.eq (.string RX5 57) (.string RX11 220)) (by decide +kernel))
  have m6 := str_eq (k' := 222) hM v6 (hts (.stringRef RX11 222 "rest ") (by decide +kernel)) (hs (Cond.eq (.string RX5 59) (.string RX11 222)) (by decide +kernel))
  have m3 := str_eq (k' := 183) hM v3 (hts (.stringRef RX11 183 "pkvtnh") (by decide +kernel)) (hs (Cond.eq (.string RX5 95) (.string RX11 183)) (by decide +kernel))
  have m4 := str_eq (k' := 188) hM v4 (hts (.stringRef RX11 188 "<=>") (by decide +kernel)) (hs (Cond.eq (.string RX5 97) (.string RX11 188)) (by decide +kernel))
  have hc := va_Zof (A := fun q : Nat => s.heap.size ≤ q) (hts (.laysStatic "java/lang/String" "COMPACT_STRINGS" "Z") (by decide +kernel)) (hts (.initialized "java/lang/String") (by decide +kernel)) (eqi_of (hs (Cond.eq (.static "java/lang/String" "COMPACT_STRINGS" "Z") (.int 1)) (by decide +kernel))) hA
  refine ⟨fun n => match n with | 0 => some b | 1 => some a1 | 2 => some a2 | 3 => some a3 | 4 => some a4 | 5 => some a5 | 6 => some a6 | 7 => some aA | 8 => some aB | 9 => r9 | 21 => some t1 | 22 => some t2 | 23 => some t3 | 24 => some t4 | 25 => some t5 | 26 => some t6 | _ => none, rfl, fun D f => ⟨gv_nf hts, gv_nm hts, gv_ao hts, ?_, ?_, hc, ?_, ?_, b, rfl, ?_, hA b hbl⟩⟩
  · intro q hq
    simp only [mSR, List.mem_cons, List.not_mem_nil, or_false] at hq
    rcases hq with rfl | rfl | rfl | rfl | rfl | rfl | rfl | rfl | rfl | rfl | rfl
    · exact ⟨a1, rfl, v1⟩
    · exact ⟨a5, rfl, v5⟩
    · exact ⟨a6, rfl, v6⟩
    · exact ⟨a2, rfl, v2⟩
    · exact ⟨a3, rfl, v3⟩
    · exact ⟨a4, rfl, v4⟩
    · exact ⟨a1, rfl, m1⟩
    · exact ⟨a5, rfl, m5⟩
    · exact ⟨a6, rfl, m6⟩
    · exact ⟨a3, rfl, m3⟩
    · exact ⟨a4, rfl, m4⟩
  · intro q hq
    simp only [mSS, List.mem_cons, List.not_mem_nil, or_false] at hq
    rcases hq with rfl | rfl | rfl
    · exact zA
    · exact zB
    · exact z9
  · intro q hq
    simp only [mTB, List.mem_cons, List.not_mem_nil, or_false] at hq
    rcases hq with rfl | rfl | rfl | rfl | rfl | rfl | rfl | rfl
    · exact ⟨aA, rfl, TA⟩
    · exact ⟨aB, rfl, TB⟩
    · exact ⟨t1, rfl, T1⟩
    · exact ⟨t2, rfl, T2⟩
    · exact ⟨t3, rfl, T3⟩
    · exact ⟨t4, rfl, T4⟩
    · exact ⟨t5, rfl, T5⟩
    · exact ⟨t6, rfl, T6⟩
  · intro k h1 h6
    rcases (show k = 1 ∨ k = 2 ∨ k = 3 ∨ k = 4 ∨ k = 5 ∨ k = 6 by omega) with rfl | rfl | rfl | rfl | rfl | rfl
    · exact ⟨a1, rfl, o1, c1, w1⟩
    · exact ⟨a2, rfl, o2, c2, w2⟩
    · exact ⟨a3, rfl, o3, c3, w3⟩
    · exact ⟨a4, rfl, o4, c4, w4⟩
    · exact ⟨a5, rfl, o5, c5, w5⟩
    · exact ⟨a6, rfl, o6, c6, w6⟩
  · have e : (fun j => Int32.ofInt ((xs j).toInt)) = xs := funext fun j => Int32.ofInt_toInt (xs j)
    show va_X b L (fun j => Int32.ofInt ((xs j).toInt)) s s.heap
    rw [e]
    exact hX
