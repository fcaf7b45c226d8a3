/-! MACHINE LAYER, 2: what nobody writes; a walk (WP), a call (CALL), how a call's contract comes of a walk -/
abbrev mX : Type := Nat × (Nat → Int)
def mNF : List (String × Nat × String × String × String × String) := [(RX2, 156, RX6, "size", "I", "BorderQuestions"), (RX10, 247, RX6, "size", "I", "BorderQuestions"), (RX10, 75, RX3, "kind", "I", "BorderQuestions"), (RX7, 57, RX3, "kind", "I", "BorderQuestions"), (RX0, 26, RX3, "kind", "I", "BorderQuestions"), (RX1, 27, RX3, "kind", "I", "BorderQuestions"), (RX10, 81, RX3, "v", "I", "BorderQuestions"), (RX7, 38, RX3, "v", "I", "BorderQuestions"), (RX0, 34, RX3, "v", "I", "BorderQuestions"), (RX2, 121, RX3, "v", "I", "BorderQuestions"), (RX10, 84, RX3, "knows", "I", "BorderQuestions"), (RX7, 64, RX3, "knows", "I", "BorderQuestions"), (RX2, 110, RX3, "knows", "I", "BorderQuestions"), (RX9, 94, RX3, "knows", "I", "BorderQuestions"), (RX10, 87, RX3, "tired", "I", "BorderQuestions"), (RX7, 54, RX3, "tired", "I", "BorderQuestions"), (RX1, 32, RX3, "tired", "I", "BorderQuestions"), (RX7, 60, RX3, "parts", "[I", "BorderQuestions"), (RX2, 49, RX4, "matters", "I", "BorderQuestions"), (RX10, 108, RX4, "matters", "I", "BorderQuestions"), (RX7, 80, RX4, "matters", "I", "BorderQuestions"), (RX10, 130, RX4, "goods", "I", "BorderQuestions"), (RX2, 96, RX4, "goods", "I", "BorderQuestions"), (RX9, 83, RX4, "goods", "I", "BorderQuestions"), (RX2, 44, RX4, "state", "I", "BorderQuestions"), (RX10, 133, RX4, "state", "I", "BorderQuestions"), (RX7, 75, RX4, "state", "I", "BorderQuestions"), (RX9, 80, RX4, "state", "I", "BorderQuestions"), (RX10, 136, RX4, "brought", "I", "BorderQuestions"), (RX7, 103, RX4, "brought", "I", "BorderQuestions"), (RX2, 152, RX9, "heard", "LBorderQuestions$Rows;", "BorderQuestions"), (RX10, 205, RX9, "heard", "LBorderQuestions$Rows;", "BorderQuestions"), (RX10, 240, RX9, "plan", "LBorderQuestions$Rows;", "BorderQuestions"), (RX10, 259, RX9, "book", "LBorderQuestions$Rows;", "BorderQuestions"), (RX2, 40, RX9, "guardCount", "I", "BorderQuestions"), (RX7, 114, RX9, "guardCount", "I", "BorderQuestions"), (RX10, 234, RX9, "guardCount", "I", "BorderQuestions"), (RX2, 80, RX9, "questionCount", "I", "BorderQuestions"), (RX7, 100, RX9, "questionCount", "I", "BorderQuestions"), (RX10, 295, RX9, "questionCount", "I", "BorderQuestions"), (RX7, 43, RX9, "hour", "I", "BorderQuestions"), (RX2, 136, RX9, "hour", "I", "BorderQuestions"), (RX10, 166, RX9, "hour", "I", "BorderQuestions"), (RX7, 34, RX9, "held", "LBorderQuestions$Border;", "BorderQuestions"), (RX10, 158, RX9, "held", "LBorderQuestions$Border;", "BorderQuestions"), (RX2, 132, RX9, "held", "LBorderQuestions$Border;", "BorderQuestions"), (RX9, 71, RX1, "rest", "I", "BorderQuestions"), (RX5, 68, RX1, "rest", "I", "BorderQuestions"), (RX10, 298, RX7, "borderCount", "I", "BorderQuestions"), (RX10, 31, RX2, "rules", "LBorderQuestions$Rules;", "BorderQuestions"), (RX10, 301, RX5, "length", "I", "BorderQuestions"), (RX10, 304, RX0, "ran", "I", "BorderQuestions"), (RX10, 321, RX8, "items", "[J", "BorderQuestions"), (RX10, 270, RX8, "sort", "I", "BorderQuestions"), (RX10, 273, RX8, "size", "I", "BorderQuestions")]
def mNM : List (String × Nat × MethodName × String) := [(RX10, 11, yX9_init, "BorderQuestions"), (RX9, 25, yX6_init, "BorderQuestions"), (RX2, 11, yX7_init, "BorderQuestions"), (RX10, 67, yX9_addGuard, "BorderQuestions"), (RX9, 47, yX3_become, "BorderQuestions"), (RX10, 71, yX9_guardAt, "BorderQuestions"), (RX10, 90, yX2_stumps, "BorderQuestions"), (RX2, 106, yX9_guardAt, "BorderQuestions"), (RX2, 139, yX1_bonus, "BorderQuestions"), (RX2, 145, yX7_witKnowing, "BorderQuestions"), (RX7, 22, yX9_guardAt, "BorderQuestions"), (RX10, 94, yX2_knewCount, "BorderQuestions"), (RX2, 161, yX6_second, "BorderQuestions"), (RX2, 34, yX9_questionAt, "BorderQuestions"), (RX2, 164, yX6_first, "BorderQuestions"), (RX2, 167, yX6_third, "BorderQuestions"), (RX10, 97, yX2_knewLeast, "BorderQuestions"), (RX10, 104, yX9_questionAt, "BorderQuestions"), (RX10, 113, yX7_wit, "BorderQuestions"), (RX7, 46, yX1_bonus, "BorderQuestions"), (RX10, 119, yX2_study, "BorderQuestions"), (RX2, 115, yX7_wit, "BorderQuestions"), (RX10, 126, yX9_addQuestion, "BorderQuestions"), (RX9, 51, yX4_become, "BorderQuestions"), (RX10, 139, yX7_putTo, "BorderQuestions"), (RX7, 71, yX9_questionAt, "BorderQuestions"), (RX10, 143, yX3_changeRow, "BorderQuestions"), (RX10, 146, yX5_add, "BorderQuestions"), (RX10, 150, yX7_spareBorder, "BorderQuestions"), (RX10, 154, yX5_readInto, "BorderQuestions"), (RX5, 23, yX1_clear, "BorderQuestions"), (RX5, 99, yX1_addTest, "BorderQuestions"), (RX5, 89, yX1_addCode, "BorderQuestions"), (RX5, 74, yX1_addWorth, "BorderQuestions"), (RX10, 162, yX7_keepSpare, "BorderQuestions"), (RX10, 169, yX9_rest, "BorderQuestions"), (RX10, 172, yX9_goodsThrough, "BorderQuestions"), (RX10, 175, yX9_finedCount, "BorderQuestions"), (RX10, 178, yX9_waiting, "BorderQuestions"), (RX10, 181, yX2_enough, "BorderQuestions"), (RX2, 52, yX7_answers, "BorderQuestions"), (RX2, 70, yX9_isWaiting, "BorderQuestions"), (RX10, 185, yX2_loadGoods, "BorderQuestions"), (RX10, 188, yX2_loadGuard, "BorderQuestions"), (RX10, 194, yX7_letPass, "BorderQuestions"), (RX7, 110, yX9_rest, "BorderQuestions"), (RX10, 198, yX9_copy, "BorderQuestions"), (RX9, 54, yX3_copy, "BorderQuestions"), (RX9, 58, yX4_copy, "BorderQuestions"), (RX9, 68, yX6_copy, "BorderQuestions"), (RX10, 209, yX6_empty, "BorderQuestions"), (RX10, 214, yX6_add, "BorderQuestions"), (RX10, 216, yX2_canCount, "BorderQuestions"), (RX10, 219, yX2_canLeast, "BorderQuestions"), (RX10, 227, yX2_oddsAbove, "BorderQuestions"), (RX10, 237, yX9_knownCount, "BorderQuestions"), (RX10, 250, yX6_first, "BorderQuestions"), (RX10, 253, yX6_second, "BorderQuestions"), (RX10, 256, yX7_carryOut, "BorderQuestions"), (RX10, 266, yX8_holds, "BorderQuestions"), (RX10, 274, yX8_get, "BorderQuestions"), (RX10, 282, yX0_forget, "BorderQuestions"), (RX10, 285, yX0_start, "BorderQuestions"), (RX10, 289, yX0_bodyAt, "BorderQuestions"), (RX10, 292, yX0_isUnder, "BorderQuestions"), (RX10, 307, yX8_become, "BorderQuestions"), (RX10, 311, yX8_hasPlace, "BorderQuestions"), (RX10, 314, yX8_put, "BorderQuestions"), (RX10, 318, yX8_hasRun, "BorderQuestions")]
def mAO : List String := [RX3, RX4, RX1, RX8]
/-- String constants: owner, place, text, number -/
def mSR : List (String × Nat × String × Nat) := [(RX5, 55, "keen ", 1), (RX5, 57, "dull ", 5), (RX5, 59, "rest ", 6), (RX5, 80, "0123456789", 2), (RX5, 95, "pkvtnh", 3), (RX5, 97, "<=>", 4), (RX11, 214, "keen ", 1), (RX11, 220, "dull ", 5), (RX11, 222, "rest ", 6), (RX11, 183, "pkvtnh", 3), (RX11, 188, "<=>", 4)]
def mSS : List (String × String × String × Nat) := [(RX0, "ABOVE", "[I", 7), (RX0, "BODIES", "[I", 8), ("jdk/internal/util/Preconditions", "SIOOBE_FORMATTER", "Ljava/util/function/BiFunction;", 9)]
def mTB : List (Nat × FieldType × List Int) := [(7, .int, [-1, 0, 0, 0, 1, 2, 3]), (8, .int, [10, 11, 12, 0, 20, 0, 30, 0, 0, 0, 0, 40, 50, 51, 0, 0, 0, 60, 71, 70, 0]), (21, .byte, [107, 101, 101, 110, 32]), (22, .byte, [48, 49, 50, 51, 52, 53, 54, 55, 56, 57]), (23, .byte, [112, 107, 118, 116, 110, 104]), (24, .byte, [60, 61, 62]), (25, .byte, [100, 117, 108, 108, 32]), (26, .byte, [114, 101, 115, 116, 32])]
def mRO (X : mX) (g : mG) (U : State) : Prop :=
  (∀ q ∈ mNF, va_Nw (.fieldLinkNest q.1 q.2.1 q.2.2.1 q.2.2.2.1 q.2.2.2.2.1 q.2.2.2.2.2) U) ∧
  (∀ q ∈ mNM, va_Nw (.methodLinkNest q.1 q.2.1 q.2.2.1 q.2.2.2) U) ∧
  (∀ C ∈ mAO, va_AO C U) ∧
  (∀ q ∈ mSR, ∃ a, g.2.2.2 q.2.2.2 = some a ∧ vk_R q.1 q.2.1 q.2.2.1 a U) ∧
  (∀ q ∈ mSS, va_Z q.1 q.2.1 q.2.2.1 (va_rf (g.2.2.2 q.2.2.2)) (mA g) U U.heap) ∧
  va_Z "java/lang/String" "COMPACT_STRINGS" "Z" (.int 1) (mA g) U U.heap ∧
  (∀ q ∈ mTB, ∃ a, g.2.2.2 q.1 = some a ∧ va_T q.2.1 a q.2.2.length (fun j => .int (Int32.ofInt (q.2.2.getD j 0))) (mA g) U U.heap) ∧
  (∀ k, 1 ≤ k → k ≤ 6 → ∃ a, g.2.2.2 k = some a ∧ va_O "java/lang/String" a (mA g) U U.heap ∧ va_OF "java/lang/String" "coder" "B" (.int 0) a (mA g) U U.heap ∧ va_OF "java/lang/String" "value" "[B" (va_rf (g.2.2.2 (20 + k))) a (mA g) U U.heap) ∧
  (∃ a, g.2.2.2 0 = some a ∧ va_X a X.1 (fun j => Int32.ofInt (X.2 j)) U U.heap ∧ ¬ mA g a)
theorem mRO.step {X : mX} {g : mG} {s U : State} (h : mRO X g s) (hW : s.WarmedH U.vm) (hq : ∀ q : Nat, q < s.heap.size → ¬ mA g q → U.heap[q]? = s.heap[q]?) : mRO X g U := by
  obtain ⟨h1, h2, h3, h4, h5, h6, h7, h8, a, h9, h10, h11⟩ := h
  have hv := hW.alike
  refine ⟨fun q hm => va_Nw.warmF hW (h1 q hm), fun q hm => va_Nw.warmM hW (h2 q hm), fun C hm => va_AO.moved hv (h3 C hm), fun q hm => ?_, fun q hm => ((h5 q hm).moved hv).kept hq, (h6.moved hv).kept hq, fun q hm => ?_, fun k k1 k2 => ?_, a, h9, ?_, h11⟩
  · obtain ⟨a, e1, e2⟩ := h4 q hm
    exact ⟨a, e1, vk_R.warm hW e2⟩
  · obtain ⟨a, e1, e2⟩ := h7 q hm
    exact ⟨a, e1, (e2.moved hv).kept hq⟩
  · obtain ⟨a, e1, e2, e3, e4⟩ := h8 k k1 k2
    exact ⟨a, e1, (e2.moved hv).kept hq, (e3.moved hv).kept hq, (e4.moved hv).kept hq⟩
  · refine (h10.moved hv).kept (hq a ?_ h11)
    obtain ⟨scr, e1, -⟩ := h10
    exact (Array.getElem?_eq_some_iff.mp e1).1
/-- a method: its code, name, how many locals, what it gives back -/
abbrev mM : Type := ByteArray × MethodName × Nat × Option FieldType
/-- where a walk stands -/
def mIn (X : mX) (g : mG) (R : Room) (p : Program) (lau : Launch) (e : Env) (s : State) (m : MethodId) (args : Array Value) (below : List Frame) (meth : Method) (c : Code) (M : mM) (d mc ms : Nat) : Prop :=
  p.tables.exec = Jvm.exec ∧ c.code = M.1 ∧ meth.sig.returnType = M.2.2.2 ∧ c.maxLocals = M.2.2.1 ∧ s.vm.findClass M.2.1.cls = some m.cls ∧ meth.name = M.2.1.name ∧ meth.locks = false ∧ (∀ w ∈ mT, w.before args s = true) ∧ va_K g.1 vwCl (mTys g) s ∧ mRO X g s ∧ g.2.2.1 ≤ s.heap.size ∧ (d ≤ R.frames ∧ 60 * d ≤ R.locals ∧ mc ≤ R.cells ∧ ms ≤ R.slots)
def mQ (g : mG) (mc : Nat) (Q : Option mV → mS → Prop) : Array Value → State → Outcome → State → Prop := fun _ st o t => ∃ (v : Option mV) (σ' : mS), o = .returned (v.map (rv g)) ∧ Q v σ' ∧ mH g σ' t.heap ∧ g.2.2.1 + σ'.1.length = st.heap.size + mc ∧ va_F (mA g) st t
def mL (g : mG) (l : List (Nat × mV)) : List (Nat × Value) := l.map fun q => (q.1, rv g q.2)
def WP (X : mX) (d : Nat) (b : Nat × Nat) (M : mM) (pc : Nat) (l : List (Nat × mV)) (st : List mV) (σ : mS) (Q : Option mV → mS → Prop) : Prop :=
  ∀ (g : mG) (R : Room) (p : Program) (lau : Launch) (e : Env) (s : State) (m : MethodId) (args : Array Value) (below : List Frame) (meth : Method) (c : Code) (H : Heap) (locs : List Loc) (cells slots mc ms : Nat) (real : Array Slot),
    mIn X g R p lau e s m args below meth c M d mc ms → cells + b.1 = mc → slots + b.2 ≤ ms → g.2.2.1 + σ.1.length = s.heap.size + cells → mH g σ H → va_S (mA g) s.heap H locs → lv_has real M.2.2.1 (mL g l) →
    W p lau e R s m args below meth c H locs cells slots (MQ below (mQ g mc Q) args s mc ms (mA g)) (F0 m pc real (st.map (rv g)))
def mR (d : Nat) (b : Nat × Nat) : Room := { frames := d, cells := b.1, slots := b.2, locals := 60 * d }
def mPc (X : mX) (g : mG) (As : List mV) (σ : mS) : Array Value → State → Prop := fun v U => v = (As.map (rv g)).toArray ∧ mH g σ U.heap ∧ g.2.2.1 + σ.1.length = U.heap.size ∧ va_K g.1 vwCl (mTys g) U ∧ mRO X g U ∧ g.2.2.1 ≤ U.heap.size
def CALL (X : mX) (d : Nat) (b : Nat × Nat) (M : mM) (As : List mV) (σ : mS) (Q : Option mV → mS → Prop) : Prop :=
  ∀ (g : mG) (lau : Launch), Met lau M.2.1 (Cond.code M.2.1 M.1 M.2.2.1 M.2.2.2 :: mT) (mR d b) (mPc X g As σ) (mQ g b.1 Q) b.1 b.2 (mA g)
def mEnt : Nat → List mV → List (Nat × mV)
  | _, [] => []
  | i, v :: vs => (i, v) :: mEnt (if mC v = 2 then i + 2 else i + 1) vs
theorem mEnt_eq (g : mG) : ∀ (i : Nat) (As : List mV), lv_args i (As.map (rv g)) = mL g (mEnt i As)
  | _, [] => rfl
  | i, v :: vs => by
    simp only [List.map_cons, lv_args, mEnt, mL]
    rw [mEnt_eq g _ vs, rv_cat]
    rfl
def mWid : List mV → Nat
  | [] => 0
  | v :: vs => mC v + mWid vs
theorem mWid_eq (g : mG) : ∀ As : List mV, (lg_sl (As.map (rv g))).length = mWid As
  | [] => rfl
  | v :: vs => by
    have ih := mWid_eq g vs
    simp only [lg_sl] at ih ⊢
    simp only [List.map_cons, List.flatMap_cons, List.length_append, mWid, ih, rv_cat]
    rcases v with z | z | r | k <;> simp [mC]
theorem CALL_intro {X : mX} {d : Nat} {b : Nat × Nat} {M : mM} {As : List mV} {σ : mS} {Q : Option mV → mS → Prop} {l : List (Nat × mV)} (hp : plainName M.2.1.cls = true) (hl : mEnt 0 As = l) (hw : mWid As ≤ M.2.2.1) (kk : WP X d b M 0 l [] σ Q) : CALL X d b M As σ Q := by
  intro g lau
  refine Met.ofW (cc := M.1) (maxL := M.2.2.1) (ret := M.2.2.2) hp rfl ?_
  intro p e s m args below meth c s₁ B hml hv
  obtain ⟨rfl, hP, hsz, hK, hRO, hbs⟩ := hv
  have hts := atoms_spec (ws := Cond.code M.2.1 M.1 M.2.2.1 M.2.2.2 :: mT) B.pre
  have hown : s.vm.findClass M.2.1.cls = some m.cls := findClass_of_methodNamed B.named
  have hnm : meth.name = M.2.1.name := (name_of_methodNamed B.named B.method).1
  rw [lg_entry_eq]
  have hl2 := lv_entry (As.map (rv g)) (n := M.2.2.1) (by rw [mWid_eq]; exact hw)
  rw [mEnt_eq, hl] at hl2
  exact kk g _ p lau e s m _ below meth c s.heap [] 0 0 b.1 b.2 _ ⟨B.exec, B.bytes, B.returns, hml, hown, hnm, B.notSynchronized, fun w hw => hts w (List.mem_cons_of_mem _ hw), hK, hRO, hbs, Nat.le_refl _, Nat.le_refl _, Nat.le_refl _, Nat.le_refl _⟩ (by omega) (by omega) hsz hP va_S.rf hl2
theorem W.monoQ {p : Program} {l : Launch} {e : Env} {R : Room} {s : State} {m : MethodId} {args : Array Value} {below : List Frame} {meth : Method} {c : Code} {H : Heap} {locs : List Loc} {cells slots : Nat} {Q Q' : State → Prop} {g : JFrame} (h : ∀ t, Q t → Q' t) (k : W p l e R s m args below meth c H locs cells slots Q g) : W p l e R s m args below meth c H locs cells slots Q' g := fun T hT X => by
  obtain ⟨t, a, b⟩ := k T hT X
  exact ⟨t, a, h t b⟩
theorem WP.mono {X : mX} {d : Nat} {b : Nat × Nat} {M : mM} {pc : Nat} {l : List (Nat × mV)} {st : List mV} {σ : mS} {Q Q' : Option mV → mS → Prop} (k : WP X d b M pc l st σ Q) (h : ∀ v σ', Q v σ' → Q' v σ') : WP X d b M pc l st σ Q' := by
  intro g R p lau e s m args below meth c H locs cells slots mc ms real hC h1 h2 hE hH hS hr
  refine W.monoQ (fun t ht => ?_) (k g R p lau e s m args below meth c H locs cells slots mc ms real hC h1 h2 hE hH hS hr)
  obtain ⟨o, a1, a2, ⟨v, σ', a3, a4, a5⟩, a6⟩ := ht
  exact ⟨o, a1, a2, ⟨v, σ', a3, h v σ' a4, a5⟩, a6⟩
theorem mSz {X : mX} {g : mG} {R : Room} {p : Program} {lau : Launch} {e : Env} {s : State} {m : MethodId} {args : Array Value} {below : List Frame} {meth : Method} {c : Code} {M : mM} {d mc ms : Nat} {H : Heap} {T : State} {locs : List Loc} {cells slots : Nat} {σ : mS} (hC : mIn X g R p lau e s m args below meth c M d mc ms) (hE : g.2.2.1 + σ.1.length = s.heap.size + cells) (hH : mH g σ H) (hS : va_S (mA g) s.heap H locs) (hT : T.heap = H) (Y : Stand p lau e R s m args below meth c T locs cells slots) : H.size = g.2.2.1 + σ.1.length := by
  have hb := hC.2.2.2.2.2.2.2.2.2.2.1
  have h1 := Y.heapSize
  rw [hT] at h1
  have h2 := hS.1
  cases hz : σ.1.length with
  | zero => omega
  | succ k =>
    have hlt : k < σ.1.length := by omega
    have h3 := (hH k _ (mW_get (List.getElem?_eq_getElem hlt))).lt
    simp only at h3
    omega
theorem CALL.mono {X : mX} {d : Nat} {b : Nat × Nat} {M : mM} {As : List mV} {σ : mS} {Q Q' : Option mV → mS → Prop} (k : CALL X d b M As σ Q) (h : ∀ v σ', Q v σ' → Q' v σ') : CALL X d b M As σ Q' := by
  intro g lau p e ha hc hk s m args below hf happ hheap hP
  obtain ⟨t, o, a1, a2, a3, ⟨a4, a5⟩⟩ := k g lau p e ha hc hk s m args below hf happ hheap hP
  obtain ⟨v, σ', w1, w2, w3⟩ := a4
  exact ⟨t, o, a1, a2, a3, ⟨v, σ', w1, h v σ' w2, w3⟩, a5⟩
