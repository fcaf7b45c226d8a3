/-! MACHINE LAYER, 3: a rule an instruction -/
theorem iI_toInt {z : Int} (h : -2147483648 ≤ z ∧ z ≤ 2147483647) : (Int32.ofInt z).toInt = z := Int32.toInt_ofInt_of_le (by simpa using h.1) (by have := h.2; omega)
theorem iI_eq {x y : Int} (hx : -2147483648 ≤ x ∧ x ≤ 2147483647) (hy : -2147483648 ≤ y ∧ y ≤ 2147483647) : Int32.ofInt x = Int32.ofInt y ↔ x = y := by
  rw [← Int32.toInt_inj, iI_toInt hx, iI_toInt hy]
theorem iI_lt {x y : Int} (hx : -2147483648 ≤ x ∧ x ≤ 2147483647) (hy : -2147483648 ≤ y ∧ y ≤ 2147483647) : Int32.ofInt x < Int32.ofInt y ↔ x < y := by
  rw [Int32.lt_iff_toInt_lt, iI_toInt hx, iI_toInt hy]
theorem iI_le {x y : Int} (hx : -2147483648 ≤ x ∧ x ≤ 2147483647) (hy : -2147483648 ≤ y ∧ y ≤ 2147483647) : Int32.ofInt x ≤ Int32.ofInt y ↔ x ≤ y := by
  rw [Int32.le_iff_toInt_le, iI_toInt hx, iI_toInt hy]
theorem iI_0 : (0 : Int32) = Int32.ofInt 0 := rfl
theorem iI_z : -2147483648 ≤ (0 : Int) ∧ (0 : Int) ≤ 2147483647 := by decide
theorem iI_clamp {i : Int} (h0 : 0 ≤ i) (h : i ≤ 2147483647) : (Int32.ofInt i).toNatClampNeg = i.toNat := by
  show (Int32.ofInt i).toInt.toNat = _
  rw [iI_toInt ⟨by omega, h⟩]
theorem iI_in {i : Int} {n : Nat} (h0 : 0 ≤ i) (hi : i < n) (hn : n ≤ 2147483647) : vp_in (Int32.ofInt i) n := by
  rintro (h | h)
  · rw [iI_0, iI_lt ⟨by omega, by omega⟩ iI_z] at h
    omega
  · rw [iI_clamp h0 (by omega)] at h
    omega
theorem jJ_toInt {z : Int} (h : -9223372036854775808 ≤ z ∧ z ≤ 9223372036854775807) : (Int64.ofInt z).toInt = z := Int64.toInt_ofInt_of_le (by simpa using h.1) (by have := h.2; omega)
theorem iI_back (x : Int32) : Int32.ofInt x.toInt = x := Int32.ofInt_toInt x
theorem jJ_back (x : Int64) : Int64.ofInt x.toInt = x := Int64.ofInt_toInt x
def mGet : List (Nat × mV) → Nat → Option mV
  | [], _ => none
  | q :: r, i => match Nat.beq q.1 i with
    | true => some q.2
    | false => mGet r i
theorem mGet_mem : ∀ {l : List (Nat × mV)} {i : Nat} {v : mV}, mGet l i = some v → (i, v) ∈ l
  | [], _, _, h => by cases h
  | q :: r, i, v, h => by
    unfold mGet at h
    split at h
    · next hq =>
      have := Nat.eq_of_beq_eq_true hq
      cases h
      rw [← this]
      exact List.mem_cons_self
    · exact List.mem_cons_of_mem _ (mGet_mem h)
theorem mGet_has {g : mG} {l : List (Nat × mV)} {i n : Nat} {v : mV} {real : Array Slot} (hr : lv_has real n (mL g l)) (h : mGet l i = some v) : real[i]? = some (.val (rv g v)) :=
  hr.2.2 (i, rv g v) (List.mem_map.mpr ⟨(i, v), mGet_mem h, rfl⟩)
/-- what is left of the locals when place i (and the next, with a long) is written -/
def mFil (i w : Nat) : List (Nat × mV) → List (Nat × mV)
  | [] => []
  | q :: r => match Nat.beq q.1 i || (Nat.beq w 2 && Nat.beq q.1 (i + 1)) || (Nat.beq (q.1 + 1) i && Nat.beq (mC q.2) 2) with
    | true => mFil i w r
    | false => q :: mFil i w r
theorem mFil1 (g : mG) (i : Nat) : ∀ l : List (Nat × mV), (mL g l).filter (fun q => !(q.1 == i) && !(q.1 + 1 == i && q.2.category == 2)) = mL g (mFil i 1 l)
  | [] => rfl
  | q :: r => by
    have ih := mFil1 g i r
    simp only [mL] at ih ⊢
    simp only [List.map_cons, List.filter_cons, ih, rv_cat, mFil]
    have e0 : ∀ a b : Nat, Nat.beq a b = (a == b) := fun a b => by rw [Bool.eq_iff_iff]; simp
    have e1 : Nat.beq q.1 i = (q.1 == i) := e0 _ _
    have e2 : Nat.beq (q.1 + 1) i = (q.1 + 1 == i) := e0 _ _
    have e3 : Nat.beq (mC q.2) 2 = (mC q.2 == 2) := e0 _ _
    rw [e1, e2, e3]
    have e5 : Nat.beq 1 2 = false := rfl
    rw [e5]
    cases (q.1 == i) <;> cases (q.1 + 1 == i) <;> cases (mC q.2 == 2) <;> simp
theorem mFil2 (g : mG) (i : Nat) : ∀ l : List (Nat × mV), (mL g l).filter (fun q => !(q.1 == i) && (!(q.1 == i + 1) && !(q.1 + 1 == i && q.2.category == 2))) = mL g (mFil i 2 l)
  | [] => rfl
  | q :: r => by
    have ih := mFil2 g i r
    simp only [mL] at ih ⊢
    simp only [List.map_cons, List.filter_cons, ih, rv_cat, mFil]
    have e0 : ∀ a b : Nat, Nat.beq a b = (a == b) := fun a b => by rw [Bool.eq_iff_iff]; simp
    have e1 : Nat.beq q.1 i = (q.1 == i) := e0 _ _
    have e2 : Nat.beq (q.1 + 1) i = (q.1 + 1 == i) := e0 _ _
    have e3 : Nat.beq (mC q.2) 2 = (mC q.2 == 2) := e0 _ _
    have e4 : Nat.beq q.1 (i + 1) = (q.1 == i + 1) := e0 _ _
    rw [e1, e2, e3, e4]
    cases (q.1 == i) <;> cases (q.1 + 1 == i) <;> cases (mC q.2 == 2) <;> cases (q.1 == i + 1) <;> simp
def mPick (l : List (Nat × mV)) (ks : List Nat) : List (Nat × mV) := ks.filterMap (fun k => l[k]?)
theorem mPick_eq (g : mG) (l : List (Nat × mV)) : ∀ ks : List Nat, lv_pick (mL g l) ks = mL g (mPick l ks)
  | [] => rfl
  | k :: ks => by
    have ih := mPick_eq g l ks
    simp only [mL, lv_pick, mPick] at ih ⊢
    simp only [List.filterMap_cons, List.getElem?_map] at ih ⊢
    cases l[k]? <;> simp [ih]
theorem mHas_sub {g : mG} {l l' : List (Nat × mV)} {n : Nat} {real : Array Slot} (ks : List Nat) (h : mPick l ks = l') (hr : lv_has real n (mL g l)) : lv_has real n (mL g l') :=
  lv_sub hr ks (by rw [mPick_eq, h])
/-- class tables, as the rules ask for them -/
def mCls (ci : Nat) (C : String) (T : u_T) (N : Nat) (ty : Nat → FieldType) : Prop :=
  vwCl[ci]? = some (C, T, N) ∧ (∀ w ∈ u_ws C T N, w ∈ mT) ∧ (∀ k, k < N → parseFieldDescriptor (T k).2.2.1 = some (ty k)) ∧ (∀ a, a < N → ∀ b, b < N → a ≠ b → (T a).2.1 ≠ (T b).2.1) ∧ ((mFT ci).length = N ∧ ci < 50)
theorem mA_int {g : mG} {σ : mS} {a t n : Nat} (h : σ.1[a]? = some (50 + t, n)) (ht : t < 3) : (mW g σ)[a]? = some (g.2.2.1 + a, .inl (g.2.1 t, n, .inl fun j => Int32.ofInt (σ.2.1 a j))) := by
  rw [mW_get h, mcell_arr, marr_lo ht]
theorem mA_long {g : mG} {σ : mS} {a n : Nat} (h : σ.1[a]? = some (53, n)) : (mW g σ)[a]? = some (g.2.2.1 + a, .inl (g.2.1 3, n, .inr (.inl fun j => Int64.ofInt (σ.2.2.1 a j)))) := by
  rw [mW_get (kd := (50 + 3, n)) h, mcell_arr, marr_3]
theorem mA_ref {g : mG} {σ : mS} {a t n : Nat} (h : σ.1[a]? = some (50 + t, n)) (ht : 4 ≤ t) : (mW g σ)[a]? = some (g.2.2.1 + a, .inl (g.2.1 t, n, .inr (.inr (.inr (.inr fun j => (σ.2.2.2 a j).map (g.2.2.1 + ·)))))) := by
  rw [mW_get h, mcell_arr, marr_hi ht]
theorem mA_obj {g : mG} {σ : mS} {a ci n : Nat} (h : σ.1[a]? = some (ci, n)) (h5 : ci < 50) : (mW g σ)[a]? = some (g.2.2.1 + a, .inr (ci, (mFT ci).mapIdx (fun k t => mval g σ a k t))) := by
  rw [mW_get h, mcell_obj h5]
theorem rest_cat (g : mG) (rest : List mV) : ((rest.map (rv g)).map fun v => v.category) = rest.map mC := by
  rw [List.map_map]; apply List.map_congr_left; intro v _; exact rv_cat g v
section RULES
variable {X : mX} {d : Nat} {b : Nat × Nat} {M : mM} {pc pc' : Nat} {l l' : List (Nat × mV)} {st : List mV} {σ : mS} {Q : Option mV → mS → Prop}
theorem WP.sub (ks : List Nat) (h : mPick l ks = l') (kk : WP X d b M pc l' st σ Q) : WP X d b M pc l st σ Q := by
  intro g R p lau e s m args below meth c H locs cells slots mc ms real hC h1 h2 hE hH hS hr
  exact kk g R p lau e s m args below meth c H locs cells slots mc ms real hC h1 h2 hE hH hS (mHas_sub ks h hr)

theorem r_iconst {n : Int} (hd : decode M.1 pc = .ok (.iconst n, 1)) (hp : pc + 1 = pc') (kk : WP X d b M pc' l (vI n :: st) σ Q) : WP X d b M pc l (st) σ Q := by
  subst hp
  intro g R p lau e s m args below meth c H locs cells slots mc ms real hC h1 h2 hE hH hS hr
  exact lv_iconst hC.1 hC.2.1 hd rfl (kk g R p lau e s m args below meth c H locs cells slots mc ms real hC h1 h2 hE hH hS hr)
theorem r_bipush {n : Int} (hd : decode M.1 pc = .ok (.bipush n, 2)) (hp : pc + 2 = pc') (hv : (Int8.ofInt n).toInt32 = Int32.ofInt n) (kk : WP X d b M pc' l (vI n :: st) σ Q) : WP X d b M pc l (st) σ Q := by
  subst hp
  intro g R p lau e s m args below meth c H locs cells slots mc ms real hC h1 h2 hE hH hS hr
  exact lv_bipush hC.1 hC.2.1 hd hv (kk g R p lau e s m args below meth c H locs cells slots mc ms real hC h1 h2 hE hH hS hr)
theorem r_sipush {n : Int} (hd : decode M.1 pc = .ok (.sipush n, 3)) (hp : pc + 3 = pc') (hv : (Int16.ofInt n).toInt32 = Int32.ofInt n) (kk : WP X d b M pc' l (vI n :: st) σ Q) : WP X d b M pc l (st) σ Q := by
  subst hp
  intro g R p lau e s m args below meth c H locs cells slots mc ms real hC h1 h2 hE hH hS hr
  exact lv_sipush hC.1 hC.2.1 hd hv (kk g R p lau e s m args below meth c H locs cells slots mc ms real hC h1 h2 hE hH hS hr)
theorem r_lconst {n : Fin 2} {z : Int} (hd : decode M.1 pc = .ok (.lconst n, 1)) (hp : pc + 1 = pc') (hv : Int64.ofNat (n : Nat) = Int64.ofInt z) (kk : WP X d b M pc' l (vL z :: st) σ Q) : WP X d b M pc l (st) σ Q := by
  subst hp
  intro g R p lau e s m args below meth c H locs cells slots mc ms real hC h1 h2 hE hH hS hr
  exact lv_lconst hC.1 hC.2.1 hd hv (kk g R p lau e s m args below meth c H locs cells slots mc ms real hC h1 h2 hE hH hS hr)
theorem r_ldc {idx : Nat} {v : Int32} {z : Int} (hd : decode M.1 pc = .ok (.ldc idx, 2)) (hp : pc + 2 = pc') (hw : Cond.constant M.2.1.cls idx v ∈ mT) (hv : v = Int32.ofInt z) (kk : WP X d b M pc' l (vI z :: st) σ Q) : WP X d b M pc l (st) σ Q := by
  subst hp
  intro g R p lau e s m args below meth c H locs cells slots mc ms real hC h1 h2 hE hH hS hr
  subst hv
  exact lv_ldc hC.1 hC.2.1 hC.2.2.2.2.1 (hC.2.2.2.2.2.2.2.1 _ hw) hd (kk g R p lau e s m args below meth c H locs cells slots mc ms real hC h1 h2 hE hH hS hr)
theorem r_ldcw {idx : Nat} {v : Int32} {z : Int} (hd : decode M.1 pc = .ok (.ldc_w idx, 3)) (hp : pc + 3 = pc') (hw : Cond.constant M.2.1.cls idx v ∈ mT) (hv : v = Int32.ofInt z) (kk : WP X d b M pc' l (vI z :: st) σ Q) : WP X d b M pc l (st) σ Q := by
  subst hp
  intro g R p lau e s m args below meth c H locs cells slots mc ms real hC h1 h2 hE hH hS hr
  subst hv
  exact lv_ldcw hC.1 hC.2.1 hC.2.2.2.2.1 (hC.2.2.2.2.2.2.2.1 _ hw) hd (kk g R p lau e s m args below meth c H locs cells slots mc ms real hC h1 h2 hE hH hS hr)
theorem r_ldc2 {idx : Nat} {v : Int64} {z : Int} (hd : decode M.1 pc = .ok (.ldc2_w idx, 3)) (hp : pc + 3 = pc') (hw : Cond.constantLong M.2.1.cls idx v ∈ mT) (hv : v = Int64.ofInt z) (kk : WP X d b M pc' l (vL z :: st) σ Q) : WP X d b M pc l (st) σ Q := by
  subst hp
  intro g R p lau e s m args below meth c H locs cells slots mc ms real hC h1 h2 hE hH hS hr
  subst hv
  exact lv_ldc2 hC.1 hC.2.1 hC.2.2.2.2.1 (hC.2.2.2.2.2.2.2.1 _ hw) hd (kk g R p lau e s m args below meth c H locs cells slots mc ms real hC h1 h2 hE hH hS hr)
theorem r_ldcS {idx k : Nat} {tx : String} (hd : decode M.1 pc = .ok (.ldc idx, 2)) (hp : pc + 2 = pc') (hw : (M.2.1.cls, idx, tx, k) ∈ mSR) (kk : WP X d b M pc' l (vO k :: st) σ Q) : WP X d b M pc l (st) σ Q := by
  subst hp
  intro g R p lau e s m args below meth c H locs cells slots mc ms real hC h1 h2 hE hH hS hr
  obtain ⟨a, e1, e2⟩ := hC.2.2.2.2.2.2.2.2.2.1.2.2.2.1 _ hw
  refine va_ldcS hC.1 hC.2.1 hC.2.2.2.2.1 e2 hd ?_
  have := kk g R p lau e s m args below meth c H locs cells slots mc ms real hC h1 h2 hE hH hS hr
  simp only [List.map_cons, rv] at this
  rw [e1] at this
  exact this
theorem r_iload_n {k : Fin 4} {z : Int} (hd : decode M.1 pc = .ok (.iload_n k, 1)) (hp : pc + 1 = pc') (hl : mGet l (k : Nat) = some (vI z)) (kk : WP X d b M pc' l (vI z :: st) σ Q) : WP X d b M pc l (st) σ Q := by
  subst hp
  intro g R p lau e s m args below meth c H locs cells slots mc ms real hC h1 h2 hE hH hS hr
  exact lv_iload_n hC.1 hC.2.1 hd rfl (mGet_has hr hl) (kk g R p lau e s m args below meth c H locs cells slots mc ms real hC h1 h2 hE hH hS hr)
theorem r_iload {k : Nat} {z : Int} (hd : decode M.1 pc = .ok (.iload k, 2)) (hp : pc + 2 = pc') (hl : mGet l k = some (vI z)) (kk : WP X d b M pc' l (vI z :: st) σ Q) : WP X d b M pc l (st) σ Q := by
  subst hp
  intro g R p lau e s m args below meth c H locs cells slots mc ms real hC h1 h2 hE hH hS hr
  exact lv_iload hC.1 hC.2.1 hd (mGet_has hr hl) (kk g R p lau e s m args below meth c H locs cells slots mc ms real hC h1 h2 hE hH hS hr)
theorem r_lload_n {k : Fin 4} {z : Int} (hd : decode M.1 pc = .ok (.lload_n k, 1)) (hp : pc + 1 = pc') (hl : mGet l (k : Nat) = some (vL z)) (kk : WP X d b M pc' l (vL z :: st) σ Q) : WP X d b M pc l (st) σ Q := by
  subst hp
  intro g R p lau e s m args below meth c H locs cells slots mc ms real hC h1 h2 hE hH hS hr
  exact lv_lload_n hC.1 hC.2.1 hd rfl (mGet_has hr hl) (kk g R p lau e s m args below meth c H locs cells slots mc ms real hC h1 h2 hE hH hS hr)
theorem r_lload {k : Nat} {z : Int} (hd : decode M.1 pc = .ok (.lload k, 2)) (hp : pc + 2 = pc') (hl : mGet l k = some (vL z)) (kk : WP X d b M pc' l (vL z :: st) σ Q) : WP X d b M pc l (st) σ Q := by
  subst hp
  intro g R p lau e s m args below meth c H locs cells slots mc ms real hC h1 h2 hE hH hS hr
  exact lv_lload hC.1 hC.2.1 hd (mGet_has hr hl) (kk g R p lau e s m args below meth c H locs cells slots mc ms real hC h1 h2 hE hH hS hr)
theorem r_aloadP_n {k : Fin 4} {r : Option Nat} (hd : decode M.1 pc = .ok (.aload_n k, 1)) (hp : pc + 1 = pc') (hl : mGet l (k : Nat) = some (vP r)) (kk : WP X d b M pc' l (vP r :: st) σ Q) : WP X d b M pc l (st) σ Q := by
  subst hp
  intro g R p lau e s m args below meth c H locs cells slots mc ms real hC h1 h2 hE hH hS hr
  have hg := mGet_has hr hl
  have hk := kk g R p lau e s m args below meth c H locs cells slots mc ms real hC h1 h2 hE hH hS hr
  simp only [List.map_cons, rv] at hk hg
  generalize r.map (g.2.2.1 + ·) = r2 at hk hg
  cases r2 with
  | none => exact lv_aload_nN hC.1 hC.2.1 hd rfl hg hk
  | some x => exact lv_aload_n hC.1 hC.2.1 hd rfl hg hk
theorem r_aloadO_n {k : Fin 4} {r : Nat} (hd : decode M.1 pc = .ok (.aload_n k, 1)) (hp : pc + 1 = pc') (hl : mGet l (k : Nat) = some (vO r)) (kk : WP X d b M pc' l (vO r :: st) σ Q) : WP X d b M pc l (st) σ Q := by
  subst hp
  intro g R p lau e s m args below meth c H locs cells slots mc ms real hC h1 h2 hE hH hS hr
  have hg := mGet_has hr hl
  have hk := kk g R p lau e s m args below meth c H locs cells slots mc ms real hC h1 h2 hE hH hS hr
  simp only [List.map_cons, rv] at hk hg
  generalize g.2.2.2 r = r2 at hk hg
  cases r2 with
  | none => exact lv_aload_nN hC.1 hC.2.1 hd rfl hg hk
  | some x => exact lv_aload_n hC.1 hC.2.1 hd rfl hg hk
theorem r_aloadP {k : Nat} {r : Option Nat} (hd : decode M.1 pc = .ok (.aload k, 2)) (hp : pc + 2 = pc') (hl : mGet l k = some (vP r)) (kk : WP X d b M pc' l (vP r :: st) σ Q) : WP X d b M pc l (st) σ Q := by
  subst hp
  intro g R p lau e s m args below meth c H locs cells slots mc ms real hC h1 h2 hE hH hS hr
  have hg := mGet_has hr hl
  have hk := kk g R p lau e s m args below meth c H locs cells slots mc ms real hC h1 h2 hE hH hS hr
  simp only [List.map_cons, rv] at hk hg
  generalize r.map (g.2.2.1 + ·) = r2 at hk hg
  cases r2 with
  | none => exact lv_aloadN hC.1 hC.2.1 hd hg hk
  | some x => exact lv_aload hC.1 hC.2.1 hd hg hk
theorem r_aloadO {k : Nat} {r : Nat} (hd : decode M.1 pc = .ok (.aload k, 2)) (hp : pc + 2 = pc') (hl : mGet l k = some (vO r)) (kk : WP X d b M pc' l (vO r :: st) σ Q) : WP X d b M pc l (st) σ Q := by
  subst hp
  intro g R p lau e s m args below meth c H locs cells slots mc ms real hC h1 h2 hE hH hS hr
  have hg := mGet_has hr hl
  have hk := kk g R p lau e s m args below meth c H locs cells slots mc ms real hC h1 h2 hE hH hS hr
  simp only [List.map_cons, rv] at hk hg
  generalize g.2.2.2 r = r2 at hk hg
  cases r2 with
  | none => exact lv_aloadN hC.1 hC.2.1 hd hg hk
  | some x => exact lv_aload hC.1 hC.2.1 hd hg hk
theorem r_istore_n {k : Fin 4} {z : Int} (hd : decode M.1 pc = .ok (.istore_n k, 1)) (hp : pc + 1 = pc') (hn : (k : Nat) < M.2.2.1) (ks : List Nat) (hk : mPick (((k : Nat), vI z) :: mFil (k : Nat) 1 l) ks = l') (kk : WP X d b M pc' l' st σ Q) : WP X d b M pc l (vI z :: st) σ Q := by
  subst hp
  intro g R p lau e s m args below meth c H locs cells slots mc ms real hC h1 h2 hE hH hS hr
  exact lv_istore_n hC.1 hC.2.1 hd rfl (hr) hn (by rw [mFil1]; rfl) (fun ls' hl' => kk g R p lau e s m args below meth c H locs cells slots mc ms ls' hC h1 h2 hE hH hS (mHas_sub (l := ((k : Nat), vI z) :: mFil (k : Nat) 1 l) ks hk hl'))
theorem r_istore {k : Nat} {z : Int} (hd : decode M.1 pc = .ok (.istore k, 2)) (hp : pc + 2 = pc') (hn : k < M.2.2.1) (ks : List Nat) (hk : mPick ((k, vI z) :: mFil k 1 l) ks = l') (kk : WP X d b M pc' l' st σ Q) : WP X d b M pc l (vI z :: st) σ Q := by
  subst hp
  intro g R p lau e s m args below meth c H locs cells slots mc ms real hC h1 h2 hE hH hS hr
  exact lv_istore hC.1 hC.2.1 hd (hr) hn (by rw [mFil1]; rfl) (fun ls' hl' => kk g R p lau e s m args below meth c H locs cells slots mc ms ls' hC h1 h2 hE hH hS (mHas_sub (l := (k, vI z) :: mFil k 1 l) ks hk hl'))
theorem r_lstore_n {k : Fin 4} {z : Int} (hd : decode M.1 pc = .ok (.lstore_n k, 1)) (hp : pc + 1 = pc') (hn : (k : Nat) + 1 < M.2.2.1) (ks : List Nat) (hk : mPick (((k : Nat), vL z) :: mFil (k : Nat) 2 l) ks = l') (kk : WP X d b M pc' l' st σ Q) : WP X d b M pc l (vL z :: st) σ Q := by
  subst hp
  intro g R p lau e s m args below meth c H locs cells slots mc ms real hC h1 h2 hE hH hS hr
  exact lv_lstore_n hC.1 hC.2.1 hd rfl (hr) hn (by rw [mFil2]; rfl) (fun ls' hl' => kk g R p lau e s m args below meth c H locs cells slots mc ms ls' hC h1 h2 hE hH hS (mHas_sub (l := ((k : Nat), vL z) :: mFil (k : Nat) 2 l) ks hk hl'))
theorem r_lstore {k : Nat} {z : Int} (hd : decode M.1 pc = .ok (.lstore k, 2)) (hp : pc + 2 = pc') (hn : k + 1 < M.2.2.1) (ks : List Nat) (hk : mPick ((k, vL z) :: mFil k 2 l) ks = l') (kk : WP X d b M pc' l' st σ Q) : WP X d b M pc l (vL z :: st) σ Q := by
  subst hp
  intro g R p lau e s m args below meth c H locs cells slots mc ms real hC h1 h2 hE hH hS hr
  exact lv_lstore hC.1 hC.2.1 hd (hr) hn (by rw [mFil2]; rfl) (fun ls' hl' => kk g R p lau e s m args below meth c H locs cells slots mc ms ls' hC h1 h2 hE hH hS (mHas_sub (l := (k, vL z) :: mFil k 2 l) ks hk hl'))
theorem r_astoreP_n {k : Fin 4} {r : Option Nat} (hd : decode M.1 pc = .ok (.astore_n k, 1)) (hp : pc + 1 = pc') (hn : (k : Nat) < M.2.2.1) (ks : List Nat) (hk : mPick (((k : Nat), vP r) :: mFil (k : Nat) 1 l) ks = l') (kk : WP X d b M pc' l' st σ Q) : WP X d b M pc l (vP r :: st) σ Q := by
  subst hp
  intro g R p lau e s m args below meth c H locs cells slots mc ms real hC h1 h2 hE hH hS hr
  show W _ _ _ _ _ _ _ _ _ _ _ _ _ _ _ (F0 m pc real (va_rf (r.map (g.2.2.1 + ·)) :: st.map (rv g)))
  have hh : ∀ ls' : Array Slot, lv_has ls' M.2.2.1 (((k : Nat), va_rf (r.map (g.2.2.1 + ·))) :: mL g (mFil (k : Nat) 1 l)) → W p lau e R s m args below meth c H locs cells slots (MQ below (mQ g mc Q) args s mc ms (mA g)) (F0 m (pc + 1) ls' (st.map (rv g))) := fun ls' hl' => kk g R p lau e s m args below meth c H locs cells slots mc ms ls' hC h1 h2 hE hH hS (mHas_sub (l := ((k : Nat), vP r) :: mFil (k : Nat) 1 l) ks hk hl')
  generalize r.map (g.2.2.1 + ·) = r2 at hh ⊢
  cases r2 with
  | none => exact lv_astore_nN hC.1 hC.2.1 hd rfl hr hn (by rw [mFil1]; rfl) hh
  | some x => exact lv_astore_n hC.1 hC.2.1 hd rfl hr hn (by rw [mFil1]; rfl) hh
theorem r_astoreP {k : Nat} {r : Option Nat} (hd : decode M.1 pc = .ok (.astore k, 2)) (hp : pc + 2 = pc') (hn : k < M.2.2.1) (ks : List Nat) (hk : mPick ((k, vP r) :: mFil k 1 l) ks = l') (kk : WP X d b M pc' l' st σ Q) : WP X d b M pc l (vP r :: st) σ Q := by
  subst hp
  intro g R p lau e s m args below meth c H locs cells slots mc ms real hC h1 h2 hE hH hS hr
  show W _ _ _ _ _ _ _ _ _ _ _ _ _ _ _ (F0 m pc real (va_rf (r.map (g.2.2.1 + ·)) :: st.map (rv g)))
  have hh : ∀ ls' : Array Slot, lv_has ls' M.2.2.1 ((k, va_rf (r.map (g.2.2.1 + ·))) :: mL g (mFil k 1 l)) → W p lau e R s m args below meth c H locs cells slots (MQ below (mQ g mc Q) args s mc ms (mA g)) (F0 m (pc + 2) ls' (st.map (rv g))) := fun ls' hl' => kk g R p lau e s m args below meth c H locs cells slots mc ms ls' hC h1 h2 hE hH hS (mHas_sub (l := (k, vP r) :: mFil k 1 l) ks hk hl')
  generalize r.map (g.2.2.1 + ·) = r2 at hh ⊢
  cases r2 with
  | none => exact lv_astoreN hC.1 hC.2.1 hd hr hn (by rw [mFil1]; rfl) hh
  | some x => exact lv_astore hC.1 hC.2.1 hd hr hn (by rw [mFil1]; rfl) hh
theorem r_astoreO_n {k : Fin 4} {r : Nat} (hd : decode M.1 pc = .ok (.astore_n k, 1)) (hp : pc + 1 = pc') (hn : (k : Nat) < M.2.2.1) (ks : List Nat) (hk : mPick (((k : Nat), vO r) :: mFil (k : Nat) 1 l) ks = l') (kk : WP X d b M pc' l' st σ Q) : WP X d b M pc l (vO r :: st) σ Q := by
  subst hp
  intro g R p lau e s m args below meth c H locs cells slots mc ms real hC h1 h2 hE hH hS hr
  show W _ _ _ _ _ _ _ _ _ _ _ _ _ _ _ (F0 m pc real (va_rf (g.2.2.2 r) :: st.map (rv g)))
  have hh : ∀ ls' : Array Slot, lv_has ls' M.2.2.1 (((k : Nat), va_rf (g.2.2.2 r)) :: mL g (mFil (k : Nat) 1 l)) → W p lau e R s m args below meth c H locs cells slots (MQ below (mQ g mc Q) args s mc ms (mA g)) (F0 m (pc + 1) ls' (st.map (rv g))) := fun ls' hl' => kk g R p lau e s m args below meth c H locs cells slots mc ms ls' hC h1 h2 hE hH hS (mHas_sub (l := ((k : Nat), vO r) :: mFil (k : Nat) 1 l) ks hk hl')
  generalize g.2.2.2 r = r2 at hh ⊢
  cases r2 with
  | none => exact lv_astore_nN hC.1 hC.2.1 hd rfl hr hn (by rw [mFil1]; rfl) hh
  | some x => exact lv_astore_n hC.1 hC.2.1 hd rfl hr hn (by rw [mFil1]; rfl) hh
theorem r_astoreO {k : Nat} {r : Nat} (hd : decode M.1 pc = .ok (.astore k, 2)) (hp : pc + 2 = pc') (hn : k < M.2.2.1) (ks : List Nat) (hk : mPick ((k, vO r) :: mFil k 1 l) ks = l') (kk : WP X d b M pc' l' st σ Q) : WP X d b M pc l (vO r :: st) σ Q := by
  subst hp
  intro g R p lau e s m args below meth c H locs cells slots mc ms real hC h1 h2 hE hH hS hr
  show W _ _ _ _ _ _ _ _ _ _ _ _ _ _ _ (F0 m pc real (va_rf (g.2.2.2 r) :: st.map (rv g)))
  have hh : ∀ ls' : Array Slot, lv_has ls' M.2.2.1 ((k, va_rf (g.2.2.2 r)) :: mL g (mFil k 1 l)) → W p lau e R s m args below meth c H locs cells slots (MQ below (mQ g mc Q) args s mc ms (mA g)) (F0 m (pc + 2) ls' (st.map (rv g))) := fun ls' hl' => kk g R p lau e s m args below meth c H locs cells slots mc ms ls' hC h1 h2 hE hH hS (mHas_sub (l := (k, vO r) :: mFil k 1 l) ks hk hl')
  generalize g.2.2.2 r = r2 at hh ⊢
  cases r2 with
  | none => exact lv_astoreN hC.1 hC.2.1 hd hr hn (by rw [mFil1]; rfl) hh
  | some x => exact lv_astore hC.1 hC.2.1 hd hr hn (by rw [mFil1]; rfl) hh
theorem mL_place {g : mG} : ∀ {l : List (Nat × mV)} {i : Nat} {v : mV}, mGet l i = some v → ∃ k : Nat, (mL g l)[k]? = some (i, rv g v) := by
  intro l i v h
  obtain ⟨k, hk⟩ := List.getElem?_of_mem (mGet_mem h)
  exact ⟨k, by simp [mL, hk]⟩
theorem r_iinc {i : Nat} {n z : Int} (hd : decode M.1 pc = .ok (.iinc i n, 3)) (hp : pc + 3 = pc') (hl : mGet l i = some (vI z)) (hn : i < M.2.2.1) (ks : List Nat) (hk : mPick ((i, vI (z + n)) :: mFil i 1 l) ks = l') (kk : WP X d b M pc' l' st σ Q) : WP X d b M pc l st σ Q := by
  subst hp
  intro g R p lau e s m args below meth c H locs cells slots mc ms real hC h1 h2 hE hH hS hr
  obtain ⟨k, hk2⟩ := mL_place (g := g) hl
  exact lv_iinc hC.1 hC.2.1 hd hr hk2 (v := Int32.ofInt (z + n)) (by rw [Int32.ofInt_add]) hn (by rw [mFil1]; rfl) (fun ls' hl' => kk g R p lau e s m args below meth c H locs cells slots mc ms ls' hC h1 h2 hE hH hS (mHas_sub (l := (i, vI (z + n)) :: mFil i 1 l) ks hk hl'))
theorem r_iadd {x y : Int} (hd : decode M.1 pc = .ok (.iadd, 1)) (hp : pc + 1 = pc') (kk : WP X d b M pc' l (vI (x + y) :: st) σ Q) : WP X d b M pc l (vI y :: vI x :: st) σ Q := by
  subst hp
  intro g R p lau e s m args below meth c H locs cells slots mc ms real hC h1 h2 hE hH hS hr
  have hk := kk g R p lau e s m args below meth c H locs cells slots mc ms real hC h1 h2 hE hH hS hr
  refine lv_iadd hC.1 hC.2.1 hd ?_
  have he : Int32.ofInt x + Int32.ofInt y = Int32.ofInt (x + y) := (Int32.ofInt_add _ _).symm
  simp only [List.map_cons, rv] at hk
  rw [he]
  exact hk
theorem r_isub {x y : Int} (hd : decode M.1 pc = .ok (.isub, 1)) (hp : pc + 1 = pc') (kk : WP X d b M pc' l (vI (x - y) :: st) σ Q) : WP X d b M pc l (vI y :: vI x :: st) σ Q := by
  subst hp
  intro g R p lau e s m args below meth c H locs cells slots mc ms real hC h1 h2 hE hH hS hr
  have hk := kk g R p lau e s m args below meth c H locs cells slots mc ms real hC h1 h2 hE hH hS hr
  refine lv_isub hC.1 hC.2.1 hd ?_
  have he : Int32.ofInt x - Int32.ofInt y = Int32.ofInt (x - y) := (Int32.ofInt_sub _ _).symm
  simp only [List.map_cons, rv] at hk
  rw [he]
  exact hk
theorem r_imul {x y : Int} (hd : decode M.1 pc = .ok (.imul, 1)) (hp : pc + 1 = pc') (kk : WP X d b M pc' l (vI (x * y) :: st) σ Q) : WP X d b M pc l (vI y :: vI x :: st) σ Q := by
  subst hp
  intro g R p lau e s m args below meth c H locs cells slots mc ms real hC h1 h2 hE hH hS hr
  have hk := kk g R p lau e s m args below meth c H locs cells slots mc ms real hC h1 h2 hE hH hS hr
  refine lv_imul hC.1 hC.2.1 hd ?_
  have he : Int32.ofInt x * Int32.ofInt y = Int32.ofInt (x * y) := (Int32.ofInt_mul _ _).symm
  simp only [List.map_cons, rv] at hk
  rw [he]
  exact hk
def band (x y : Int) : Int := (Int32.ofInt x &&& Int32.ofInt y).toInt
theorem r_iand {x y : Int} (hd : decode M.1 pc = .ok (.iand, 1)) (hp : pc + 1 = pc') (kk : WP X d b M pc' l (vI (band x y) :: st) σ Q) : WP X d b M pc l (vI y :: vI x :: st) σ Q := by
  subst hp
  intro g R p lau e s m args below meth c H locs cells slots mc ms real hC h1 h2 hE hH hS hr
  have hk := kk g R p lau e s m args below meth c H locs cells slots mc ms real hC h1 h2 hE hH hS hr
  refine lv_iand hC.1 hC.2.1 hd ?_
  have he : Int32.ofInt x &&& Int32.ofInt y = Int32.ofInt (band x y) := (iI_back _).symm
  simp only [List.map_cons, rv] at hk
  rw [he]
  exact hk
def bor (x y : Int) : Int := (Int32.ofInt x ||| Int32.ofInt y).toInt
theorem r_ior {x y : Int} (hd : decode M.1 pc = .ok (.ior, 1)) (hp : pc + 1 = pc') (kk : WP X d b M pc' l (vI (bor x y) :: st) σ Q) : WP X d b M pc l (vI y :: vI x :: st) σ Q := by
  subst hp
  intro g R p lau e s m args below meth c H locs cells slots mc ms real hC h1 h2 hE hH hS hr
  have hk := kk g R p lau e s m args below meth c H locs cells slots mc ms real hC h1 h2 hE hH hS hr
  refine lv_ior hC.1 hC.2.1 hd ?_
  have he : Int32.ofInt x ||| Int32.ofInt y = Int32.ofInt (bor x y) := (iI_back _).symm
  simp only [List.map_cons, rv] at hk
  rw [he]
  exact hk
def bxor (x y : Int) : Int := (Int32.ofInt x ^^^ Int32.ofInt y).toInt
theorem r_ixor {x y : Int} (hd : decode M.1 pc = .ok (.ixor, 1)) (hp : pc + 1 = pc') (kk : WP X d b M pc' l (vI (bxor x y) :: st) σ Q) : WP X d b M pc l (vI y :: vI x :: st) σ Q := by
  subst hp
  intro g R p lau e s m args below meth c H locs cells slots mc ms real hC h1 h2 hE hH hS hr
  have hk := kk g R p lau e s m args below meth c H locs cells slots mc ms real hC h1 h2 hE hH hS hr
  refine lv_ixor hC.1 hC.2.1 hd ?_
  have he : Int32.ofInt x ^^^ Int32.ofInt y = Int32.ofInt (bxor x y) := (iI_back _).symm
  simp only [List.map_cons, rv] at hk
  rw [he]
  exact hk
def bshl (x y : Int) : Int := (Int32.ofInt x <<< (Int32.ofInt y &&& 31)).toInt
theorem r_ishl {x y : Int} (hd : decode M.1 pc = .ok (.ishl, 1)) (hp : pc + 1 = pc') (kk : WP X d b M pc' l (vI (bshl x y) :: st) σ Q) : WP X d b M pc l (vI y :: vI x :: st) σ Q := by
  subst hp
  intro g R p lau e s m args below meth c H locs cells slots mc ms real hC h1 h2 hE hH hS hr
  have hk := kk g R p lau e s m args below meth c H locs cells slots mc ms real hC h1 h2 hE hH hS hr
  refine lv_ishl hC.1 hC.2.1 hd ?_
  have he : Int32.ofInt x <<< (Int32.ofInt y &&& 31) = Int32.ofInt (bshl x y) := (iI_back _).symm
  simp only [List.map_cons, rv] at hk
  rw [he]
  exact hk
def bshr (x y : Int) : Int := (Int32.ofInt x >>> (Int32.ofInt y &&& 31)).toInt
theorem r_ishr {x y : Int} (hd : decode M.1 pc = .ok (.ishr, 1)) (hp : pc + 1 = pc') (kk : WP X d b M pc' l (vI (bshr x y) :: st) σ Q) : WP X d b M pc l (vI y :: vI x :: st) σ Q := by
  subst hp
  intro g R p lau e s m args below meth c H locs cells slots mc ms real hC h1 h2 hE hH hS hr
  have hk := kk g R p lau e s m args below meth c H locs cells slots mc ms real hC h1 h2 hE hH hS hr
  refine lv_ishr hC.1 hC.2.1 hd ?_
  have he : Int32.ofInt x >>> (Int32.ofInt y &&& 31) = Int32.ofInt (bshr x y) := (iI_back _).symm
  simp only [List.map_cons, rv] at hk
  rw [he]
  exact hk
def bushr (x y : Int) : Int := ((Int32.ofInt x).toUInt32 >>> ((Int32.ofInt y).toUInt32 &&& Int32.toUInt32 31)).toInt32.toInt
theorem r_iushr {x y : Int} (hd : decode M.1 pc = .ok (.iushr, 1)) (hp : pc + 1 = pc') (kk : WP X d b M pc' l (vI (bushr x y) :: st) σ Q) : WP X d b M pc l (vI y :: vI x :: st) σ Q := by
  subst hp
  intro g R p lau e s m args below meth c H locs cells slots mc ms real hC h1 h2 hE hH hS hr
  have hk := kk g R p lau e s m args below meth c H locs cells slots mc ms real hC h1 h2 hE hH hS hr
  refine lv_iushr hC.1 hC.2.1 hd (v := ((Int32.ofInt x).toUInt32 >>> ((Int32.ofInt y).toUInt32 &&& Int32.toUInt32 31)).toInt32) rfl ?_
  have he : ((Int32.ofInt x).toUInt32 >>> ((Int32.ofInt y).toUInt32 &&& Int32.toUInt32 31)).toInt32 = Int32.ofInt (bushr x y) := (iI_back _).symm
  simp only [List.map_cons, rv] at hk
  rw [he]
  exact hk
theorem iI_div {x y : Int} (hx : -2147483648 < x ∧ x ≤ 2147483647) (hy : -2147483648 ≤ y ∧ y ≤ 2147483647) : Int32.ofInt x / Int32.ofInt y = Int32.ofInt (x.tdiv y) := by
  rw [← Int32.toInt_inj, Int32.toInt_div_of_ne_left _ _ (by intro h; have := congrArg Int32.toInt h; rw [iI_toInt ⟨by omega, hx.2⟩] at this; have e : Int32.minValue.toInt = -2147483648 := by decide
                                                            omega), iI_toInt ⟨by omega, hx.2⟩, iI_toInt hy, iI_toInt]
  have h1 := Int.natAbs_tdiv_le_natAbs x y
  omega
theorem r_idiv {x y : Int} (hd : decode M.1 pc = .ok (.idiv, 1)) (hp : pc + 1 = pc') (hx : -2147483648 < x ∧ x ≤ 2147483647) (hy : -2147483648 ≤ y ∧ y ≤ 2147483647) (hy0 : ¬ y = 0) (kk : WP X d b M pc' l (vI (x.tdiv y) :: st) σ Q) : WP X d b M pc l (vI y :: vI x :: st) σ Q := by
  subst hp
  intro g R p lau e s m args below meth c H locs cells slots mc ms real hC h1 h2 hE hH hS hr
  have hk := kk g R p lau e s m args below meth c H locs cells slots mc ms real hC h1 h2 hE hH hS hr
  refine lv_idiv hC.1 hC.2.1 hd (by rw [iI_0, iI_eq hy iI_z]; exact hy0) ?_
  simp only [List.map_cons, rv] at hk
  rw [iI_div hx hy]
  exact hk
theorem r_irem {x y : Int} (hd : decode M.1 pc = .ok (.irem, 1)) (hp : pc + 1 = pc') (hx : -2147483648 < x ∧ x ≤ 2147483647) (hy : -2147483648 ≤ y ∧ y ≤ 2147483647) (hy0 : ¬ y = 0) (kk : WP X d b M pc' l (vI (x.tmod y) :: st) σ Q) : WP X d b M pc l (vI y :: vI x :: st) σ Q := by
  subst hp
  intro g R p lau e s m args below meth c H locs cells slots mc ms real hC h1 h2 hE hH hS hr
  have hk := kk g R p lau e s m args below meth c H locs cells slots mc ms real hC h1 h2 hE hH hS hr
  refine lv_irem hC.1 hC.2.1 hd (by rw [iI_0, iI_eq hy iI_z]; exact hy0) ?_
  simp only [List.map_cons, rv] at hk
  have he : Int32.ofInt x - Int32.ofInt x / Int32.ofInt y * Int32.ofInt y = Int32.ofInt (x.tmod y) := by
    rw [iI_div hx hy, ← Int32.ofInt_mul, ← Int32.ofInt_sub, Int.tmod_def, Int.mul_comm]
  rw [he]
  exact hk
theorem r_ineg {x : Int} (hd : decode M.1 pc = .ok (.ineg, 1)) (hp : pc + 1 = pc') (kk : WP X d b M pc' l (vI (-x) :: st) σ Q) : WP X d b M pc l (vI x :: st) σ Q := by
  subst hp
  intro g R p lau e s m args below meth c H locs cells slots mc ms real hC h1 h2 hE hH hS hr
  have hk := kk g R p lau e s m args below meth c H locs cells slots mc ms real hC h1 h2 hE hH hS hr
  refine lv_ineg hC.1 hC.2.1 hd ?_
  simp only [List.map_cons, rv, Int32.ofInt_neg] at hk
  exact hk
theorem r_i2l {x : Int} (hd : decode M.1 pc = .ok (.i2l, 1)) (hp : pc + 1 = pc') (hx : -2147483648 ≤ x ∧ x ≤ 2147483647) (kk : WP X d b M pc' l (vL x :: st) σ Q) : WP X d b M pc l (vI x :: st) σ Q := by
  subst hp
  intro g R p lau e s m args below meth c H locs cells slots mc ms real hC h1 h2 hE hH hS hr
  have hk := kk g R p lau e s m args below meth c H locs cells slots mc ms real hC h1 h2 hE hH hS hr
  refine lv_i2l hC.1 hC.2.1 hd (v := (Int32.ofInt x).toInt64) rfl ?_
  have he : (Int32.ofInt x).toInt64 = Int64.ofInt x := by
    rw [← Int64.toInt_inj, Int32.toInt_toInt64, iI_toInt hx, jJ_toInt ⟨by omega, by omega⟩]
  simp only [List.map_cons, rv] at hk
  rw [he]
  exact hk
theorem r_l2i {x : Int} (hd : decode M.1 pc = .ok (.l2i, 1)) (hp : pc + 1 = pc') (kk : WP X d b M pc' l (vI x :: st) σ Q) : WP X d b M pc l (vL x :: st) σ Q := by
  subst hp
  intro g R p lau e s m args below meth c H locs cells slots mc ms real hC h1 h2 hE hH hS hr
  have hk := kk g R p lau e s m args below meth c H locs cells slots mc ms real hC h1 h2 hE hH hS hr
  refine lv_l2i hC.1 hC.2.1 hd (v := (Int64.ofInt x).toInt32) rfl ?_
  have he : (Int64.ofInt x).toInt32 = Int32.ofInt x := by simp
  simp only [List.map_cons, rv] at hk
  rw [he]
  exact hk
def bi8 (x : Int) : Int := (Int32.ofInt x).toInt8.toInt32.toInt
def bi16 (x : Int) : Int := (Int32.ofInt x).toInt16.toInt32.toInt
def bc16 (x : Int) : Int := ((Int32.ofInt x).toUInt32 % 65536).toInt32.toInt
theorem r_i2b {x : Int} (hd : decode M.1 pc = .ok (.i2b, 1)) (hp : pc + 1 = pc') (kk : WP X d b M pc' l (vI (bi8 x) :: st) σ Q) : WP X d b M pc l (vI x :: st) σ Q := by
  subst hp
  intro g R p lau e s m args below meth c H locs cells slots mc ms real hC h1 h2 hE hH hS hr
  have hk := kk g R p lau e s m args below meth c H locs cells slots mc ms real hC h1 h2 hE hH hS hr
  refine lv_i2b hC.1 hC.2.1 hd (v := (Int32.ofInt x).toInt8.toInt32) rfl ?_
  have he : (Int32.ofInt x).toInt8.toInt32 = Int32.ofInt (bi8 x) := (iI_back _).symm
  simp only [List.map_cons, rv] at hk
  rw [he]
  exact hk
theorem r_i2s {x : Int} (hd : decode M.1 pc = .ok (.i2s, 1)) (hp : pc + 1 = pc') (kk : WP X d b M pc' l (vI (bi16 x) :: st) σ Q) : WP X d b M pc l (vI x :: st) σ Q := by
  subst hp
  intro g R p lau e s m args below meth c H locs cells slots mc ms real hC h1 h2 hE hH hS hr
  have hk := kk g R p lau e s m args below meth c H locs cells slots mc ms real hC h1 h2 hE hH hS hr
  refine lv_i2s hC.1 hC.2.1 hd (v := (Int32.ofInt x).toInt16.toInt32) rfl ?_
  have he : (Int32.ofInt x).toInt16.toInt32 = Int32.ofInt (bi16 x) := (iI_back _).symm
  simp only [List.map_cons, rv] at hk
  rw [he]
  exact hk
theorem r_i2c {x : Int} (hd : decode M.1 pc = .ok (.i2c, 1)) (hp : pc + 1 = pc') (kk : WP X d b M pc' l (vI (bc16 x) :: st) σ Q) : WP X d b M pc l (vI x :: st) σ Q := by
  subst hp
  intro g R p lau e s m args below meth c H locs cells slots mc ms real hC h1 h2 hE hH hS hr
  have hk := kk g R p lau e s m args below meth c H locs cells slots mc ms real hC h1 h2 hE hH hS hr
  refine lv_i2c hC.1 hC.2.1 hd (v := ((Int32.ofInt x).toUInt32 % 65536).toInt32) rfl ?_
  have he : ((Int32.ofInt x).toUInt32 % 65536).toInt32 = Int32.ofInt (bc16 x) := (iI_back _).symm
  simp only [List.map_cons, rv] at hk
  rw [he]
  exact hk
theorem r_ladd {x y : Int} (hd : decode M.1 pc = .ok (.ladd, 1)) (hp : pc + 1 = pc') (kk : WP X d b M pc' l (vL (x + y) :: st) σ Q) : WP X d b M pc l (vL y :: vL x :: st) σ Q := by
  subst hp
  intro g R p lau e s m args below meth c H locs cells slots mc ms real hC h1 h2 hE hH hS hr
  have hk := kk g R p lau e s m args below meth c H locs cells slots mc ms real hC h1 h2 hE hH hS hr
  refine lv_ladd hC.1 hC.2.1 hd ?_
  have he : Int64.ofInt x + Int64.ofInt y = Int64.ofInt (x + y) := (Int64.ofInt_add _ _).symm
  simp only [List.map_cons, rv] at hk
  rw [he]
  exact hk
def jand (x y : Int) : Int := (Int64.ofInt x &&& Int64.ofInt y).toInt
def jor (x y : Int) : Int := (Int64.ofInt x ||| Int64.ofInt y).toInt
def jshl (x y : Int) : Int := (Int64.ofInt x <<< ((Int32.ofInt y).toInt64 &&& 63)).toInt
theorem r_land {x y : Int} (hd : decode M.1 pc = .ok (.land, 1)) (hp : pc + 1 = pc') (kk : WP X d b M pc' l (vL (jand x y) :: st) σ Q) : WP X d b M pc l (vL y :: vL x :: st) σ Q := by
  subst hp
  intro g R p lau e s m args below meth c H locs cells slots mc ms real hC h1 h2 hE hH hS hr
  have hk := kk g R p lau e s m args below meth c H locs cells slots mc ms real hC h1 h2 hE hH hS hr
  refine lv_land hC.1 hC.2.1 hd ?_
  have he : Int64.ofInt x &&& Int64.ofInt y = Int64.ofInt (jand x y) := (jJ_back _).symm
  simp only [List.map_cons, rv] at hk
  rw [he]
  exact hk
theorem r_lor {x y : Int} (hd : decode M.1 pc = .ok (.lor, 1)) (hp : pc + 1 = pc') (kk : WP X d b M pc' l (vL (jor x y) :: st) σ Q) : WP X d b M pc l (vL y :: vL x :: st) σ Q := by
  subst hp
  intro g R p lau e s m args below meth c H locs cells slots mc ms real hC h1 h2 hE hH hS hr
  have hk := kk g R p lau e s m args below meth c H locs cells slots mc ms real hC h1 h2 hE hH hS hr
  refine lv_lor hC.1 hC.2.1 hd ?_
  have he : Int64.ofInt x ||| Int64.ofInt y = Int64.ofInt (jor x y) := (jJ_back _).symm
  simp only [List.map_cons, rv] at hk
  rw [he]
  exact hk
theorem r_lshl {x y : Int} (hd : decode M.1 pc = .ok (.lshl, 1)) (hp : pc + 1 = pc') (kk : WP X d b M pc' l (vL (jshl x y) :: st) σ Q) : WP X d b M pc l (vI y :: vL x :: st) σ Q := by
  subst hp
  intro g R p lau e s m args below meth c H locs cells slots mc ms real hC h1 h2 hE hH hS hr
  have hk := kk g R p lau e s m args below meth c H locs cells slots mc ms real hC h1 h2 hE hH hS hr
  refine lv_lshl hC.1 hC.2.1 hd (v := Int64.ofInt x <<< ((Int32.ofInt y).toInt64 &&& 63)) rfl ?_
  have he : Int64.ofInt x <<< ((Int32.ofInt y).toInt64 &&& 63) = Int64.ofInt (jshl x y) := (jJ_back _).symm
  simp only [List.map_cons, rv] at hk
  rw [he]
  exact hk
theorem jJ_div {x y : Int} (hx : -9223372036854775808 < x ∧ x ≤ 9223372036854775807) (hy : -9223372036854775808 ≤ y ∧ y ≤ 9223372036854775807) : Int64.ofInt x / Int64.ofInt y = Int64.ofInt (x.tdiv y) := by
  rw [← Int64.toInt_inj, Int64.toInt_div_of_ne_left _ _ (by intro h; have := congrArg Int64.toInt h; rw [jJ_toInt ⟨by omega, hx.2⟩] at this; have e : Int64.minValue.toInt = -9223372036854775808 := by decide
                                                            omega), jJ_toInt ⟨by omega, hx.2⟩, jJ_toInt hy, jJ_toInt]
  have h1 := Int.natAbs_tdiv_le_natAbs x y
  omega
theorem jJ_eq {x y : Int} (hx : -9223372036854775808 ≤ x ∧ x ≤ 9223372036854775807) (hy : -9223372036854775808 ≤ y ∧ y ≤ 9223372036854775807) : Int64.ofInt x = Int64.ofInt y ↔ x = y := by
  rw [← Int64.toInt_inj, jJ_toInt hx, jJ_toInt hy]
theorem jJ_z : -9223372036854775808 ≤ (0 : Int) ∧ (0 : Int) ≤ 9223372036854775807 := by decide
theorem r_ldiv {x y : Int} (hd : decode M.1 pc = .ok (.ldiv, 1)) (hp : pc + 1 = pc') (hx : -9223372036854775808 < x ∧ x ≤ 9223372036854775807) (hy : -9223372036854775808 ≤ y ∧ y ≤ 9223372036854775807) (hy0 : ¬ y = 0) (kk : WP X d b M pc' l (vL (x.tdiv y) :: st) σ Q) : WP X d b M pc l (vL y :: vL x :: st) σ Q := by
  subst hp
  intro g R p lau e s m args below meth c H locs cells slots mc ms real hC h1 h2 hE hH hS hr
  have hk := kk g R p lau e s m args below meth c H locs cells slots mc ms real hC h1 h2 hE hH hS hr
  refine lv_ldiv hC.1 hC.2.1 hd (by rw [show (0 : Int64) = Int64.ofInt 0 from rfl, jJ_eq hy jJ_z]; exact hy0) ?_
  have he : Int64.ofInt x / Int64.ofInt y = Int64.ofInt (x.tdiv y) := jJ_div hx hy
  simp only [List.map_cons, rv] at hk
  rw [he]
  exact hk
theorem r_lrem {x y : Int} (hd : decode M.1 pc = .ok (.lrem, 1)) (hp : pc + 1 = pc') (hx : -9223372036854775808 < x ∧ x ≤ 9223372036854775807) (hy : -9223372036854775808 ≤ y ∧ y ≤ 9223372036854775807) (hy0 : ¬ y = 0) (kk : WP X d b M pc' l (vL (x.tmod y) :: st) σ Q) : WP X d b M pc l (vL y :: vL x :: st) σ Q := by
  subst hp
  intro g R p lau e s m args below meth c H locs cells slots mc ms real hC h1 h2 hE hH hS hr
  have hk := kk g R p lau e s m args below meth c H locs cells slots mc ms real hC h1 h2 hE hH hS hr
  refine lv_lrem hC.1 hC.2.1 hd (by rw [show (0 : Int64) = Int64.ofInt 0 from rfl, jJ_eq hy jJ_z]; exact hy0) ?_
  have he : Int64.ofInt x - Int64.ofInt x / Int64.ofInt y * Int64.ofInt y = Int64.ofInt (x.tmod y) := by
    rw [jJ_div hx hy, ← Int64.ofInt_mul, ← Int64.ofInt_sub, Int.tmod_def, Int.mul_comm]
  simp only [List.map_cons, rv] at hk
  rw [he]
  exact hk
/-- compare two longs -/
def jcmp (x y : Int) : Int := if y < x then 1 else if x = y then 0 else -1
theorem r_lcmp {x y : Int} (hd : decode M.1 pc = .ok (.lcmp, 1)) (hp : pc + 1 = pc') (hx : -9223372036854775808 ≤ x ∧ x ≤ 9223372036854775807) (hy : -9223372036854775808 ≤ y ∧ y ≤ 9223372036854775807) (kk : WP X d b M pc' l (vI (jcmp x y) :: st) σ Q) : WP X d b M pc l (vL y :: vL x :: st) σ Q := by
  subst hp
  intro g R p lau e s m args below meth c H locs cells slots mc ms real hC h1 h2 hE hH hS hr
  have hk := kk g R p lau e s m args below meth c H locs cells slots mc ms real hC h1 h2 hE hH hS hr
  refine W.lcmp hC.1 hC.2.1 hd ?_
  have he : lg_cmp (Int64.ofInt x) (Int64.ofInt y) = Int32.ofInt (jcmp x y) := by
    unfold lg_cmp jcmp
    simp only [gt_iff_lt, Int64.lt_iff_toInt_lt, ← Int64.toInt_inj, jJ_toInt hx, jJ_toInt hy]
    split
    · rfl
    · split <;> rfl
  simp only [List.map_cons, rv] at hk
  rw [he]
  exact hk
theorem r_dup {v : mV} (hd : decode M.1 pc = .ok (.dup, 1)) (hp : pc + 1 = pc') (hv : mC v = 1) (kk : WP X d b M pc' l (v :: v :: st) σ Q) : WP X d b M pc l (v :: st) σ Q := by
  subst hp
  intro g R p lau e s m args below meth c H locs cells slots mc ms real hC h1 h2 hE hH hS hr
  exact lv_dup hC.1 hC.2.1 hd (by rw [rv_cat]; exact hv) (kk g R p lau e s m args below meth c H locs cells slots mc ms real hC h1 h2 hE hH hS hr)
theorem r_pop {v : mV} (hd : decode M.1 pc = .ok (.pop, 1)) (hp : pc + 1 = pc') (hv : mC v = 1) (kk : WP X d b M pc' l st σ Q) : WP X d b M pc l (v :: st) σ Q := by
  subst hp
  intro g R p lau e s m args below meth c H locs cells slots mc ms real hC h1 h2 hE hH hS hr
  exact lv_pop hC.1 hC.2.1 hd (by rw [rv_cat]; exact hv) (kk g R p lau e s m args below meth c H locs cells slots mc ms real hC h1 h2 hE hH hS hr)
theorem r_dup_x1 {v w : mV} (hd : decode M.1 pc = .ok (.dup_x1, 1)) (hp : pc + 1 = pc') (hv : mC v = 1) (hw : mC w = 1) (kk : WP X d b M pc' l (v :: w :: v :: st) σ Q) : WP X d b M pc l (v :: w :: st) σ Q := by
  subst hp
  intro g R p lau e s m args below meth c H locs cells slots mc ms real hC h1 h2 hE hH hS hr
  exact lv_dup_x1 hC.1 hC.2.1 hd (by rw [rv_cat]; exact hv) (by rw [rv_cat]; exact hw) (kk g R p lau e s m args below meth c H locs cells slots mc ms real hC h1 h2 hE hH hS hr)
theorem r_dup2 {v w : mV} (hd : decode M.1 pc = .ok (.dup2, 1)) (hp : pc + 1 = pc') (hv : mC v = 1) (hw : mC w = 1) (kk : WP X d b M pc' l (v :: w :: v :: w :: st) σ Q) : WP X d b M pc l (v :: w :: st) σ Q := by
  subst hp
  intro g R p lau e s m args below meth c H locs cells slots mc ms real hC h1 h2 hE hH hS hr
  exact lv_dup2_11 hC.1 hC.2.1 hd (by rw [rv_cat]; exact hv) (by rw [rv_cat]; exact hw) (kk g R p lau e s m args below meth c H locs cells slots mc ms real hC h1 h2 hE hH hS hr)
theorem r_icmp_eq {x y : Int} {off : Int} {tgt : Nat} (hd : decode M.1 pc = .ok (.if_icmp .eq off, 3)) (hp : pc + 3 = pc') (ht : (pc : Int) + off = (tgt : Int)) (hx : -2147483648 ≤ x ∧ x ≤ 2147483647) (hy : -2147483648 ≤ y ∧ y ≤ 2147483647) (kt : x = y → WP X d b M tgt l st σ Q) (kf : ¬ x = y → WP X d b M pc' l st σ Q) : WP X d b M pc l (vI y :: vI x :: st) σ Q := by
  subst hp
  intro g R p lau e s m args below meth c H locs cells slots mc ms real hC h1 h2 hE hH hS hr
  exact lv_icmp_eq hC.1 hC.2.1 hd ht (fun h => (kt (by rwa [iI_eq hx hy] at h)) g R p lau e s m args below meth c H locs cells slots mc ms real hC h1 h2 hE hH hS hr) (fun h => (kf (by rwa [iI_eq hx hy] at h)) g R p lau e s m args below meth c H locs cells slots mc ms real hC h1 h2 hE hH hS hr)
theorem r_icmp_ne {x y : Int} {off : Int} {tgt : Nat} (hd : decode M.1 pc = .ok (.if_icmp .ne off, 3)) (hp : pc + 3 = pc') (ht : (pc : Int) + off = (tgt : Int)) (hx : -2147483648 ≤ x ∧ x ≤ 2147483647) (hy : -2147483648 ≤ y ∧ y ≤ 2147483647) (kt : ¬ x = y → WP X d b M tgt l st σ Q) (kf : x = y → WP X d b M pc' l st σ Q) : WP X d b M pc l (vI y :: vI x :: st) σ Q := by
  subst hp
  intro g R p lau e s m args below meth c H locs cells slots mc ms real hC h1 h2 hE hH hS hr
  exact lv_icmp_ne hC.1 hC.2.1 hd ht (fun h => (kt (by rwa [iI_eq hx hy] at h)) g R p lau e s m args below meth c H locs cells slots mc ms real hC h1 h2 hE hH hS hr) (fun h => (kf (by rwa [iI_eq hx hy] at h)) g R p lau e s m args below meth c H locs cells slots mc ms real hC h1 h2 hE hH hS hr)
theorem r_icmp_lt {x y : Int} {off : Int} {tgt : Nat} (hd : decode M.1 pc = .ok (.if_icmp .lt off, 3)) (hp : pc + 3 = pc') (ht : (pc : Int) + off = (tgt : Int)) (hx : -2147483648 ≤ x ∧ x ≤ 2147483647) (hy : -2147483648 ≤ y ∧ y ≤ 2147483647) (kt : x < y → WP X d b M tgt l st σ Q) (kf : ¬ x < y → WP X d b M pc' l st σ Q) : WP X d b M pc l (vI y :: vI x :: st) σ Q := by
  subst hp
  intro g R p lau e s m args below meth c H locs cells slots mc ms real hC h1 h2 hE hH hS hr
  exact lv_icmp_lt hC.1 hC.2.1 hd ht (fun h => (kt (by rwa [iI_lt hx hy] at h)) g R p lau e s m args below meth c H locs cells slots mc ms real hC h1 h2 hE hH hS hr) (fun h => (kf (by rwa [iI_lt hx hy] at h)) g R p lau e s m args below meth c H locs cells slots mc ms real hC h1 h2 hE hH hS hr)
theorem r_icmp_ge {x y : Int} {off : Int} {tgt : Nat} (hd : decode M.1 pc = .ok (.if_icmp .ge off, 3)) (hp : pc + 3 = pc') (ht : (pc : Int) + off = (tgt : Int)) (hx : -2147483648 ≤ x ∧ x ≤ 2147483647) (hy : -2147483648 ≤ y ∧ y ≤ 2147483647) (kt : y ≤ x → WP X d b M tgt l st σ Q) (kf : ¬ y ≤ x → WP X d b M pc' l st σ Q) : WP X d b M pc l (vI y :: vI x :: st) σ Q := by
  subst hp
  intro g R p lau e s m args below meth c H locs cells slots mc ms real hC h1 h2 hE hH hS hr
  exact lv_icmp_ge hC.1 hC.2.1 hd ht (fun h => (kt (by rwa [iI_le hy hx] at h)) g R p lau e s m args below meth c H locs cells slots mc ms real hC h1 h2 hE hH hS hr) (fun h => (kf (by rwa [iI_le hy hx] at h)) g R p lau e s m args below meth c H locs cells slots mc ms real hC h1 h2 hE hH hS hr)
theorem r_icmp_gt {x y : Int} {off : Int} {tgt : Nat} (hd : decode M.1 pc = .ok (.if_icmp .gt off, 3)) (hp : pc + 3 = pc') (ht : (pc : Int) + off = (tgt : Int)) (hx : -2147483648 ≤ x ∧ x ≤ 2147483647) (hy : -2147483648 ≤ y ∧ y ≤ 2147483647) (kt : y < x → WP X d b M tgt l st σ Q) (kf : ¬ y < x → WP X d b M pc' l st σ Q) : WP X d b M pc l (vI y :: vI x :: st) σ Q := by
  subst hp
  intro g R p lau e s m args below meth c H locs cells slots mc ms real hC h1 h2 hE hH hS hr
  exact lv_icmp_gt hC.1 hC.2.1 hd ht (fun h => (kt (by rwa [iI_lt hy hx] at h)) g R p lau e s m args below meth c H locs cells slots mc ms real hC h1 h2 hE hH hS hr) (fun h => (kf (by rwa [iI_lt hy hx] at h)) g R p lau e s m args below meth c H locs cells slots mc ms real hC h1 h2 hE hH hS hr)
theorem r_icmp_le {x y : Int} {off : Int} {tgt : Nat} (hd : decode M.1 pc = .ok (.if_icmp .le off, 3)) (hp : pc + 3 = pc') (ht : (pc : Int) + off = (tgt : Int)) (hx : -2147483648 ≤ x ∧ x ≤ 2147483647) (hy : -2147483648 ≤ y ∧ y ≤ 2147483647) (kt : x ≤ y → WP X d b M tgt l st σ Q) (kf : ¬ x ≤ y → WP X d b M pc' l st σ Q) : WP X d b M pc l (vI y :: vI x :: st) σ Q := by
  subst hp
  intro g R p lau e s m args below meth c H locs cells slots mc ms real hC h1 h2 hE hH hS hr
  exact lv_icmp_le hC.1 hC.2.1 hd ht (fun h => (kt (by rwa [iI_le hx hy] at h)) g R p lau e s m args below meth c H locs cells slots mc ms real hC h1 h2 hE hH hS hr) (fun h => (kf (by rwa [iI_le hx hy] at h)) g R p lau e s m args below meth c H locs cells slots mc ms real hC h1 h2 hE hH hS hr)
theorem r_if_eq {x : Int} {off : Int} {tgt : Nat} (hd : decode M.1 pc = .ok (.ifCond .eq off, 3)) (hp : pc + 3 = pc') (ht : (pc : Int) + off = (tgt : Int)) (hx : -2147483648 ≤ x ∧ x ≤ 2147483647) (kt : x = 0 → WP X d b M tgt l st σ Q) (kf : ¬ x = 0 → WP X d b M pc' l st σ Q) : WP X d b M pc l (vI x :: st) σ Q := by
  subst hp
  intro g R p lau e s m args below meth c H locs cells slots mc ms real hC h1 h2 hE hH hS hr
  exact lv_if_eq hC.1 hC.2.1 hd ht (fun h => (kt (by rwa [iI_0, iI_eq hx iI_z] at h)) g R p lau e s m args below meth c H locs cells slots mc ms real hC h1 h2 hE hH hS hr) (fun h => (kf (by rwa [iI_0, iI_eq hx iI_z] at h)) g R p lau e s m args below meth c H locs cells slots mc ms real hC h1 h2 hE hH hS hr)
theorem r_if_ne {x : Int} {off : Int} {tgt : Nat} (hd : decode M.1 pc = .ok (.ifCond .ne off, 3)) (hp : pc + 3 = pc') (ht : (pc : Int) + off = (tgt : Int)) (hx : -2147483648 ≤ x ∧ x ≤ 2147483647) (kt : ¬ x = 0 → WP X d b M tgt l st σ Q) (kf : x = 0 → WP X d b M pc' l st σ Q) : WP X d b M pc l (vI x :: st) σ Q := by
  subst hp
  intro g R p lau e s m args below meth c H locs cells slots mc ms real hC h1 h2 hE hH hS hr
  exact lv_if_ne hC.1 hC.2.1 hd ht (fun h => (kt (by rwa [iI_0, iI_eq hx iI_z] at h)) g R p lau e s m args below meth c H locs cells slots mc ms real hC h1 h2 hE hH hS hr) (fun h => (kf (by rwa [iI_0, iI_eq hx iI_z] at h)) g R p lau e s m args below meth c H locs cells slots mc ms real hC h1 h2 hE hH hS hr)
theorem r_if_lt {x : Int} {off : Int} {tgt : Nat} (hd : decode M.1 pc = .ok (.ifCond .lt off, 3)) (hp : pc + 3 = pc') (ht : (pc : Int) + off = (tgt : Int)) (hx : -2147483648 ≤ x ∧ x ≤ 2147483647) (kt : x < 0 → WP X d b M tgt l st σ Q) (kf : ¬ x < 0 → WP X d b M pc' l st σ Q) : WP X d b M pc l (vI x :: st) σ Q := by
  subst hp
  intro g R p lau e s m args below meth c H locs cells slots mc ms real hC h1 h2 hE hH hS hr
  exact lv_if_lt hC.1 hC.2.1 hd ht (fun h => (kt (by rwa [iI_0, iI_lt hx iI_z] at h)) g R p lau e s m args below meth c H locs cells slots mc ms real hC h1 h2 hE hH hS hr) (fun h => (kf (by rwa [iI_0, iI_lt hx iI_z] at h)) g R p lau e s m args below meth c H locs cells slots mc ms real hC h1 h2 hE hH hS hr)
theorem r_if_ge {x : Int} {off : Int} {tgt : Nat} (hd : decode M.1 pc = .ok (.ifCond .ge off, 3)) (hp : pc + 3 = pc') (ht : (pc : Int) + off = (tgt : Int)) (hx : -2147483648 ≤ x ∧ x ≤ 2147483647) (kt : 0 ≤ x → WP X d b M tgt l st σ Q) (kf : ¬ 0 ≤ x → WP X d b M pc' l st σ Q) : WP X d b M pc l (vI x :: st) σ Q := by
  subst hp
  intro g R p lau e s m args below meth c H locs cells slots mc ms real hC h1 h2 hE hH hS hr
  exact lv_if_ge hC.1 hC.2.1 hd ht (fun h => (kt (by rwa [iI_0, iI_le iI_z hx] at h)) g R p lau e s m args below meth c H locs cells slots mc ms real hC h1 h2 hE hH hS hr) (fun h => (kf (by rwa [iI_0, iI_le iI_z hx] at h)) g R p lau e s m args below meth c H locs cells slots mc ms real hC h1 h2 hE hH hS hr)
theorem r_if_gt {x : Int} {off : Int} {tgt : Nat} (hd : decode M.1 pc = .ok (.ifCond .gt off, 3)) (hp : pc + 3 = pc') (ht : (pc : Int) + off = (tgt : Int)) (hx : -2147483648 ≤ x ∧ x ≤ 2147483647) (kt : 0 < x → WP X d b M tgt l st σ Q) (kf : ¬ 0 < x → WP X d b M pc' l st σ Q) : WP X d b M pc l (vI x :: st) σ Q := by
  subst hp
  intro g R p lau e s m args below meth c H locs cells slots mc ms real hC h1 h2 hE hH hS hr
  exact lv_if_gt hC.1 hC.2.1 hd ht (fun h => (kt (by rwa [iI_0, iI_lt iI_z hx] at h)) g R p lau e s m args below meth c H locs cells slots mc ms real hC h1 h2 hE hH hS hr) (fun h => (kf (by rwa [iI_0, iI_lt iI_z hx] at h)) g R p lau e s m args below meth c H locs cells slots mc ms real hC h1 h2 hE hH hS hr)
theorem r_if_le {x : Int} {off : Int} {tgt : Nat} (hd : decode M.1 pc = .ok (.ifCond .le off, 3)) (hp : pc + 3 = pc') (ht : (pc : Int) + off = (tgt : Int)) (hx : -2147483648 ≤ x ∧ x ≤ 2147483647) (kt : x ≤ 0 → WP X d b M tgt l st σ Q) (kf : ¬ x ≤ 0 → WP X d b M pc' l st σ Q) : WP X d b M pc l (vI x :: st) σ Q := by
  subst hp
  intro g R p lau e s m args below meth c H locs cells slots mc ms real hC h1 h2 hE hH hS hr
  exact lv_if_le hC.1 hC.2.1 hd ht (fun h => (kt (by rwa [iI_0, iI_le hx iI_z] at h)) g R p lau e s m args below meth c H locs cells slots mc ms real hC h1 h2 hE hH hS hr) (fun h => (kf (by rwa [iI_0, iI_le hx iI_z] at h)) g R p lau e s m args below meth c H locs cells slots mc ms real hC h1 h2 hE hH hS hr)
theorem r_ifnull {r : Option Nat} {off : Int} {tgt : Nat} (hd : decode M.1 pc = .ok (.ifnull off, 3)) (hp : pc + 3 = pc') (ht : (pc : Int) + off = (tgt : Int)) (kt : r = none → WP X d b M tgt l st σ Q) (kf : ∀ a, r = some a → WP X d b M pc' l st σ Q) : WP X d b M pc l (vP r :: st) σ Q := by
  subst hp
  intro g R p lau e s m args below meth c H locs cells slots mc ms real hC h1 h2 hE hH hS hr
  cases r with
  | none => exact lv_ifnullN hC.1 hC.2.1 hd ht ((kt rfl) g R p lau e s m args below meth c H locs cells slots mc ms real hC h1 h2 hE hH hS hr)
  | some a => exact lv_ifnull hC.1 hC.2.1 hd ((kf a rfl) g R p lau e s m args below meth c H locs cells slots mc ms real hC h1 h2 hE hH hS hr)
theorem r_ifnonnull {r : Option Nat} {off : Int} {tgt : Nat} (hd : decode M.1 pc = .ok (.ifnonnull off, 3)) (hp : pc + 3 = pc') (ht : (pc : Int) + off = (tgt : Int)) (kt : r = none → WP X d b M pc' l st σ Q) (kf : ∀ a, r = some a → WP X d b M tgt l st σ Q) : WP X d b M pc l (vP r :: st) σ Q := by
  subst hp
  intro g R p lau e s m args below meth c H locs cells slots mc ms real hC h1 h2 hE hH hS hr
  cases r with
  | none => exact lv_ifnonnullN hC.1 hC.2.1 hd ((kt rfl) g R p lau e s m args below meth c H locs cells slots mc ms real hC h1 h2 hE hH hS hr)
  | some a => exact lv_ifnonnull hC.1 hC.2.1 hd ht ((kf a rfl) g R p lau e s m args below meth c H locs cells slots mc ms real hC h1 h2 hE hH hS hr)
theorem r_null (hd : decode M.1 pc = .ok (.aconst_null, 1)) (hp : pc + 1 = pc') (kk : WP X d b M pc' l (vP none :: st) σ Q) : WP X d b M pc l st σ Q := by
  subst hp
  intro g R p lau e s m args below meth c H locs cells slots mc ms real hC h1 h2 hE hH hS hr
  exact lv_null hC.1 hC.2.1 hd (kk g R p lau e s m args below meth c H locs cells slots mc ms real hC h1 h2 hE hH hS hr)
theorem r_goto {off : Int} {tgt : Nat} (hd : decode M.1 pc = .ok (.goto off, 3)) (ht : (pc : Int) + off = (tgt : Int)) (kk : WP X d b M tgt l st σ Q) : WP X d b M pc l st σ Q := by
  intro g R p lau e s m args below meth c H locs cells slots mc ms real hC h1 h2 hE hH hS hr
  exact lv_goto hC.1 hC.2.1 hd ht (kk g R p lau e s m args below meth c H locs cells slots mc ms real hC h1 h2 hE hH hS hr)
theorem r_tswI {x dflt lo hi off : Int} {offs : Array Int} {len k tgt : Nat} (hd : decode M.1 pc = .ok (.tableswitch dflt lo hi offs, len)) (hx : x = lo + (k : Int)) (hxx : -2147483648 ≤ x ∧ x ≤ 2147483647) (hh : x ≤ hi) (ho : offs[k]? = some off) (ht : (pc : Int) + off = (tgt : Int)) (kk : WP X d b M tgt l st σ Q) : WP X d b M pc l (vI x :: st) σ Q := by
  intro g R p lau e s m args below meth c H locs cells slots mc ms real hC h1 h2 hE hH hS hr
  have hxI := iI_toInt hxx
  exact lv_tableIn hC.1 hC.2.1 hd (by rw [hxI]; omega) (by rw [hxI]; omega) (by rw [hxI, show (x - lo).toNat = k by omega]; exact ho) ht (kk g R p lau e s m args below meth c H locs cells slots mc ms real hC h1 h2 hE hH hS hr)
theorem r_tswO {x dflt lo hi : Int} {offs : Array Int} {len tgt : Nat} (hd : decode M.1 pc = .ok (.tableswitch dflt lo hi offs, len)) (hxx : -2147483648 ≤ x ∧ x ≤ 2147483647) (ho : x < lo ∨ hi < x) (ht : (pc : Int) + dflt = (tgt : Int)) (kk : WP X d b M tgt l st σ Q) : WP X d b M pc l (vI x :: st) σ Q := by
  intro g R p lau e s m args below meth c H locs cells slots mc ms real hC h1 h2 hE hH hS hr
  exact lv_tableOut hC.1 hC.2.1 hd (by rw [iI_toInt hxx]; exact ho) ht (kk g R p lau e s m args below meth c H locs cells slots mc ms real hC h1 h2 hE hH hS hr)
theorem r_lsw {x dflt off : Int} {ps : Array (Int × Int)} {len tgt : Nat} (hd : decode M.1 pc = .ok (.lookupswitch dflt ps, len)) (hx : -2147483648 ≤ x ∧ x ≤ 2147483647) (hp : (ps.toList.zip (ps.toList.drop 1)).all (fun (a, next) => a.1 < next.1) = true) (ho : Op.lookupswitch.offset ps.toList dflt x = off) (ht : (pc : Int) + off = (tgt : Int)) (kk : WP X d b M tgt l st σ Q) : WP X d b M pc l (vI x :: st) σ Q := by
  intro g R p lau e s m args below meth c H locs cells slots mc ms real hC h1 h2 hE hH hS hr
  exact lv_lookup hC.1 hC.2.1 hd hp (by rw [iI_toInt hx]; exact ho) ht (kk g R p lau e s m args below meth c H locs cells slots mc ms real hC h1 h2 hE hH hS hr)
theorem r_getf {rr : Option Nat} {ci k a : Nat} {C : String} {T : u_T} {N t idx : Nat} {ty : Nat → FieldType} (hd : decode M.1 pc = .ok (.getfield idx, 3)) (hp : pc + 3 = pc') (hM : mCls ci C T N ty) (hk : k < N) (hft : (mFT ci)[k]? = some t) (hw : Cond.fieldLink M.2.1.cls idx (T k).1 (T k).2.1 (T k).2.2.1 ∈ mT) (er : rr = some a) (ha : σ.1[a]? = some (ci, 0)) (kk : WP X d b M pc' l (mfv σ a k t :: st) σ Q) : WP X d b M pc l (vP rr :: st) σ Q := by
  subst er
  subst hp
  intro g R p lau e s m args below meth c H locs cells slots mc ms real hC h1 h2 hE hH hS hr
  have hkk := kk g R p lau e s m args below meth c H locs cells slots mc ms real hC h1 h2 hE hH hS hr
  rw [List.map_cons, rv_mfv] at hkk
  exact va_get hC.1 hC.2.1 hC.2.2.2.2.2.2.2.1 hM.2.1 hC.2.2.2.2.1 hC.2.2.2.2.2.2.2.2.1 hH a (mA_obj ha hM.2.2.2.2.2) hM.1 k hk (hC.2.2.2.2.2.2.2.1 _ hw) (fun _ h => h) (by rw [List.getElem?_mapIdx, hft]; rfl) hd hkk
theorem r_putI {rr : Option Nat} {ci k a : Nat} {C : String} {T : u_T} {N idx : Nat} {ty : Nat → FieldType} {z : Int} (hd : decode M.1 pc = .ok (.putfield idx, 3)) (hp : pc + 3 = pc') (hM : mCls ci C T N ty) (hk : k < N) (hft : (mFT ci)[k]? = some 0) (hty : ty k = .int) (hw : Cond.fieldLink M.2.1.cls idx (T k).1 (T k).2.1 (T k).2.2.1 ∈ mT) (hfin : (T k).2.2.2 = false) (er : rr = some a) (ha : σ.1[a]? = some (ci, 0)) (kk : WP X d b M pc' l st (sI σ a k z) Q) : WP X d b M pc l (vI z :: vP rr :: st) σ Q := by
  subst er
  subst hp
  intro g R p lau e s m args below meth c H locs cells slots mc ms real hC h1 h2 hE hH hS hr
  have hnf : narrow (ty k) (Value.int (Int32.ofInt z)) = Value.int (Int32.ofInt z) ∧ fits (ty k) (Value.int (Int32.ofInt z)) = true := by rw [hty]; exact ⟨rfl, rfl⟩
  refine va_put hC.1 hC.2.1 hC.2.2.2.2.2.2.2.1 hM.2.1 ty hM.2.2.1 hM.2.2.2.1 hC.2.2.2.2.1 hC.2.2.2.2.2.2.2.2.1 hH (mD g σ) hS a (mA_obj ha hM.2.2.2.2.2) hM.1 k hk (hC.2.2.2.2.2.2.2.1 _ hw) (fun _ h => h) hfin (hM.2.2.1 k hk) hnf.1 hnf.2 (by rw [List.length_mapIdx]; exact (List.getElem?_eq_some_iff.mp hft).1) hd (fun H1 locs1 hP1 hD1 hS1 => ?_)
  refine kk g R p lau e s m args below meth c H1 locs1 cells slots mc ms real hC h1 h2 hE ?_ hS1 hr
  unfold mH
  rw [← mH_putI (g := g) ha hM.2.2.2.2.2 hft]
  exact hP1
theorem r_putZ {rr : Option Nat} {ci k a : Nat} {C : String} {T : u_T} {N idx : Nat} {ty : Nat → FieldType} {z : Int} (hd : decode M.1 pc = .ok (.putfield idx, 3)) (hp : pc + 3 = pc') (hM : mCls ci C T N ty) (hk : k < N) (hft : (mFT ci)[k]? = some 0) (hty : ty k = .boolean) (hz : z = 0 ∨ z = 1) (hw : Cond.fieldLink M.2.1.cls idx (T k).1 (T k).2.1 (T k).2.2.1 ∈ mT) (hfin : (T k).2.2.2 = false) (er : rr = some a) (ha : σ.1[a]? = some (ci, 0)) (kk : WP X d b M pc' l st (sI σ a k z) Q) : WP X d b M pc l (vI z :: vP rr :: st) σ Q := by
  subst er
  subst hp
  intro g R p lau e s m args below meth c H locs cells slots mc ms real hC h1 h2 hE hH hS hr
  have hnf : narrow (ty k) (Value.int (Int32.ofInt z)) = Value.int (Int32.ofInt z) ∧ fits (ty k) (Value.int (Int32.ofInt z)) = true := by rw [hty]; rcases hz with rfl | rfl <;> exact ⟨by decide, by decide⟩
  refine va_put hC.1 hC.2.1 hC.2.2.2.2.2.2.2.1 hM.2.1 ty hM.2.2.1 hM.2.2.2.1 hC.2.2.2.2.1 hC.2.2.2.2.2.2.2.2.1 hH (mD g σ) hS a (mA_obj ha hM.2.2.2.2.2) hM.1 k hk (hC.2.2.2.2.2.2.2.1 _ hw) (fun _ h => h) hfin (hM.2.2.1 k hk) hnf.1 hnf.2 (by rw [List.length_mapIdx]; exact (List.getElem?_eq_some_iff.mp hft).1) hd (fun H1 locs1 hP1 hD1 hS1 => ?_)
  refine kk g R p lau e s m args below meth c H1 locs1 cells slots mc ms real hC h1 h2 hE ?_ hS1 hr
  unfold mH
  rw [← mH_putI (g := g) ha hM.2.2.2.2.2 hft]
  exact hP1
theorem r_putR {rr : Option Nat} {ci k a : Nat} {C : String} {T : u_T} {N idx : Nat} {ty : Nat → FieldType} {r : Option Nat} (hd : decode M.1 pc = .ok (.putfield idx, 3)) (hp : pc + 3 = pc') (hM : mCls ci C T N ty) (hk : k < N) (hft : (mFT ci)[k]? = some 2) (hty : (∃ C, ty k = .object C) ∨ ∃ C, ty k = .array C) (hw : Cond.fieldLink M.2.1.cls idx (T k).1 (T k).2.1 (T k).2.2.1 ∈ mT) (hfin : (T k).2.2.2 = false) (er : rr = some a) (ha : σ.1[a]? = some (ci, 0)) (kk : WP X d b M pc' l st (sR σ a k r) Q) : WP X d b M pc l (vP r :: vP rr :: st) σ Q := by
  subst er
  subst hp
  intro g R p lau e s m args below meth c H locs cells slots mc ms real hC h1 h2 hE hH hS hr
  have hnf : narrow (ty k) (va_rf (r.map (g.2.2.1 + ·))) = va_rf (r.map (g.2.2.1 + ·)) ∧ fits (ty k) (va_rf (r.map (g.2.2.1 + ·))) = true := by
    cases r <;> rcases hty with ⟨C, hty⟩ | ⟨C, hty⟩ <;> rw [hty] <;> exact ⟨rfl, rfl⟩
  refine va_put hC.1 hC.2.1 hC.2.2.2.2.2.2.2.1 hM.2.1 ty hM.2.2.1 hM.2.2.2.1 hC.2.2.2.2.1 hC.2.2.2.2.2.2.2.2.1 hH (mD g σ) hS a (mA_obj ha hM.2.2.2.2.2) hM.1 k hk (hC.2.2.2.2.2.2.2.1 _ hw) (fun _ h => h) hfin (hM.2.2.1 k hk) hnf.1 hnf.2 (by rw [List.length_mapIdx]; exact (List.getElem?_eq_some_iff.mp hft).1) hd (fun H1 locs1 hP1 hD1 hS1 => ?_)
  refine kk g R p lau e s m args below meth c H1 locs1 cells slots mc ms real hC h1 h2 hE ?_ hS1 hr
  unfold mH
  rw [← mH_putR (g := g) ha hM.2.2.2.2.2 hft]
  exact hP1
theorem r_putH {rr : Option Nat} {ci k a : Nat} {C : String} {T : u_T} {N idx : Nat} {ty : Nat → FieldType} {z : Int} (hd : decode M.1 pc = .ok (.putfield idx, 3)) (hp : pc + 3 = pc') (hM : mCls ci C T N ty) (hk : k < N) (hft : (mFT ci)[k]? = some 3) (hty : (∃ C, ty k = .object C) ∨ ∃ C, ty k = .array C) (hw : Cond.fieldLink M.2.1.cls idx (T k).1 (T k).2.1 (T k).2.2.1 ∈ mT) (hfin : (T k).2.2.2 = false) (er : rr = some a) (ha : σ.1[a]? = some (ci, 0)) (kk : WP X d b M pc' l st (sI σ a k z) Q) : WP X d b M pc l (vP (hB z) :: vP rr :: st) σ Q := by
  subst er
  subst hp
  intro g R p lau e s m args below meth c H locs cells slots mc ms real hC h1 h2 hE hH hS hr
  have hnf : narrow (ty k) (va_rf ((hB z).map (g.2.2.1 + ·))) = va_rf ((hB z).map (g.2.2.1 + ·)) ∧ fits (ty k) (va_rf ((hB z).map (g.2.2.1 + ·))) = true := by
    cases hB z <;> rcases hty with ⟨C, hty⟩ | ⟨C, hty⟩ <;> rw [hty] <;> exact ⟨rfl, rfl⟩
  refine va_put hC.1 hC.2.1 hC.2.2.2.2.2.2.2.1 hM.2.1 ty hM.2.2.1 hM.2.2.2.1 hC.2.2.2.2.1 hC.2.2.2.2.2.2.2.2.1 hH (mD g σ) hS a (mA_obj ha hM.2.2.2.2.2) hM.1 k hk (hC.2.2.2.2.2.2.2.1 _ hw) (fun _ h => h) hfin (hM.2.2.1 k hk) hnf.1 hnf.2 (by rw [List.length_mapIdx]; exact (List.getElem?_eq_some_iff.mp hft).1) hd (fun H1 locs1 hP1 hD1 hS1 => ?_)
  refine kk g R p lau e s m args below meth c H1 locs1 cells slots mc ms real hC h1 h2 hE ?_ hS1 hr
  unfold mH
  rw [← mH_putH (g := g) ha hM.2.2.2.2.2 hft]
  exact hP1
theorem r_putIF {rr : Option Nat} {ci k a : Nat} {C : String} {T : u_T} {N idx : Nat} {ty : Nat → FieldType} {z : Int} (hd : decode M.1 pc = .ok (.putfield idx, 3)) (hp : pc + 3 = pc') (hM : mCls ci C T N ty) (hk : k < N) (hft : (mFT ci)[k]? = some 0) (hty : ty k = .int) (hw : Cond.fieldLink M.2.1.cls idx (T k).1 (T k).2.1 (T k).2.2.1 ∈ mT) (hfin : (T k).2.2.2 = true) (hin : M.2.1.name = "<init>") (hdc : (T k).1 = M.2.1.cls) (er : rr = some a) (ha : σ.1[a]? = some (ci, 0)) (kk : WP X d b M pc' l st (sI σ a k z) Q) : WP X d b M pc l (vI z :: vP rr :: st) σ Q := by
  subst er
  subst hp
  intro g R p lau e s m args below meth c H locs cells slots mc ms real hC h1 h2 hE hH hS hr
  have hnf : narrow (ty k) (Value.int (Int32.ofInt z)) = Value.int (Int32.ofInt z) ∧ fits (ty k) (Value.int (Int32.ofInt z)) = true := by rw [hty]; exact ⟨rfl, rfl⟩
  refine va_putF hC.1 hC.2.1 hC.2.2.2.2.2.2.2.1 hM.2.1 ty hM.2.2.1 hM.2.2.2.1 hC.2.2.2.2.1 hC.2.2.2.2.2.2.2.2.1 hH (mD g σ) hS a (mA_obj ha hM.2.2.2.2.2) hM.1 k hk (hC.2.2.2.2.2.2.2.1 _ hw) (fun _ h => h) hfin (hC.2.2.2.2.2.1.trans hin) hdc (hM.2.2.1 k hk) hnf.1 hnf.2 (by rw [List.length_mapIdx]; exact (List.getElem?_eq_some_iff.mp hft).1) hd (fun H1 locs1 hP1 hD1 hS1 => ?_)
  refine kk g R p lau e s m args below meth c H1 locs1 cells slots mc ms real hC h1 h2 hE ?_ hS1 hr
  unfold mH
  rw [← mH_putI (g := g) ha hM.2.2.2.2.2 hft]
  exact hP1
theorem r_putZF {rr : Option Nat} {ci k a : Nat} {C : String} {T : u_T} {N idx : Nat} {ty : Nat → FieldType} {z : Int} (hd : decode M.1 pc = .ok (.putfield idx, 3)) (hp : pc + 3 = pc') (hM : mCls ci C T N ty) (hk : k < N) (hft : (mFT ci)[k]? = some 0) (hty : ty k = .boolean) (hz : z = 0 ∨ z = 1) (hw : Cond.fieldLink M.2.1.cls idx (T k).1 (T k).2.1 (T k).2.2.1 ∈ mT) (hfin : (T k).2.2.2 = true) (hin : M.2.1.name = "<init>") (hdc : (T k).1 = M.2.1.cls) (er : rr = some a) (ha : σ.1[a]? = some (ci, 0)) (kk : WP X d b M pc' l st (sI σ a k z) Q) : WP X d b M pc l (vI z :: vP rr :: st) σ Q := by
  subst er
  subst hp
  intro g R p lau e s m args below meth c H locs cells slots mc ms real hC h1 h2 hE hH hS hr
  have hnf : narrow (ty k) (Value.int (Int32.ofInt z)) = Value.int (Int32.ofInt z) ∧ fits (ty k) (Value.int (Int32.ofInt z)) = true := by rw [hty]; rcases hz with rfl | rfl <;> exact ⟨by decide, by decide⟩
  refine va_putF hC.1 hC.2.1 hC.2.2.2.2.2.2.2.1 hM.2.1 ty hM.2.2.1 hM.2.2.2.1 hC.2.2.2.2.1 hC.2.2.2.2.2.2.2.2.1 hH (mD g σ) hS a (mA_obj ha hM.2.2.2.2.2) hM.1 k hk (hC.2.2.2.2.2.2.2.1 _ hw) (fun _ h => h) hfin (hC.2.2.2.2.2.1.trans hin) hdc (hM.2.2.1 k hk) hnf.1 hnf.2 (by rw [List.length_mapIdx]; exact (List.getElem?_eq_some_iff.mp hft).1) hd (fun H1 locs1 hP1 hD1 hS1 => ?_)
  refine kk g R p lau e s m args below meth c H1 locs1 cells slots mc ms real hC h1 h2 hE ?_ hS1 hr
  unfold mH
  rw [← mH_putI (g := g) ha hM.2.2.2.2.2 hft]
  exact hP1
theorem r_putRF {rr : Option Nat} {ci k a : Nat} {C : String} {T : u_T} {N idx : Nat} {ty : Nat → FieldType} {r : Option Nat} (hd : decode M.1 pc = .ok (.putfield idx, 3)) (hp : pc + 3 = pc') (hM : mCls ci C T N ty) (hk : k < N) (hft : (mFT ci)[k]? = some 2) (hty : (∃ C, ty k = .object C) ∨ ∃ C, ty k = .array C) (hw : Cond.fieldLink M.2.1.cls idx (T k).1 (T k).2.1 (T k).2.2.1 ∈ mT) (hfin : (T k).2.2.2 = true) (hin : M.2.1.name = "<init>") (hdc : (T k).1 = M.2.1.cls) (er : rr = some a) (ha : σ.1[a]? = some (ci, 0)) (kk : WP X d b M pc' l st (sR σ a k r) Q) : WP X d b M pc l (vP r :: vP rr :: st) σ Q := by
  subst er
  subst hp
  intro g R p lau e s m args below meth c H locs cells slots mc ms real hC h1 h2 hE hH hS hr
  have hnf : narrow (ty k) (va_rf (r.map (g.2.2.1 + ·))) = va_rf (r.map (g.2.2.1 + ·)) ∧ fits (ty k) (va_rf (r.map (g.2.2.1 + ·))) = true := by
    cases r <;> rcases hty with ⟨C, hty⟩ | ⟨C, hty⟩ <;> rw [hty] <;> exact ⟨rfl, rfl⟩
  refine va_putF hC.1 hC.2.1 hC.2.2.2.2.2.2.2.1 hM.2.1 ty hM.2.2.1 hM.2.2.2.1 hC.2.2.2.2.1 hC.2.2.2.2.2.2.2.2.1 hH (mD g σ) hS a (mA_obj ha hM.2.2.2.2.2) hM.1 k hk (hC.2.2.2.2.2.2.2.1 _ hw) (fun _ h => h) hfin (hC.2.2.2.2.2.1.trans hin) hdc (hM.2.2.1 k hk) hnf.1 hnf.2 (by rw [List.length_mapIdx]; exact (List.getElem?_eq_some_iff.mp hft).1) hd (fun H1 locs1 hP1 hD1 hS1 => ?_)
  refine kk g R p lau e s m args below meth c H1 locs1 cells slots mc ms real hC h1 h2 hE ?_ hS1 hr
  unfold mH
  rw [← mH_putR (g := g) ha hM.2.2.2.2.2 hft]
  exact hP1
theorem r_getfN {host : String} {rr : Option Nat} {ci k a : Nat} {C : String} {T : u_T} {N t idx : Nat} {ty : Nat → FieldType} (hd : decode M.1 pc = .ok (.getfield idx, 3)) (hp : pc + 3 = pc') (hM : mCls ci C T N ty) (hk : k < N) (hft : (mFT ci)[k]? = some t) (hw : (M.2.1.cls, idx, (T k).1, (T k).2.1, (T k).2.2.1, host) ∈ mNF) (er : rr = some a) (ha : σ.1[a]? = some (ci, 0)) (kk : WP X d b M pc' l (mfv σ a k t :: st) σ Q) : WP X d b M pc l (vP rr :: st) σ Q := by
  subst er
  subst hp
  intro g R p lau e s m args below meth c H locs cells slots mc ms real hC h1 h2 hE hH hS hr
  have hkk := kk g R p lau e s m args below meth c H locs cells slots mc ms real hC h1 h2 hE hH hS hr
  rw [List.map_cons, rv_mfv] at hkk
  exact va_getN hC.1 hC.2.1 hC.2.2.2.2.2.2.2.1 hM.2.1 hC.2.2.2.2.1 hC.2.2.2.2.2.2.2.2.1 hH a (mA_obj ha hM.2.2.2.2.2) hM.1 k hk (va_Nw.use rfl (hC.2.2.2.2.2.2.2.2.2.1.1 _ hw)) (fun _ h => h) (by rw [List.getElem?_mapIdx, hft]; rfl) hd hkk
theorem r_putIN {host : String} {rr : Option Nat} {ci k a : Nat} {C : String} {T : u_T} {N idx : Nat} {ty : Nat → FieldType} {z : Int} (hd : decode M.1 pc = .ok (.putfield idx, 3)) (hp : pc + 3 = pc') (hM : mCls ci C T N ty) (hk : k < N) (hft : (mFT ci)[k]? = some 0) (hty : ty k = .int) (hw : (M.2.1.cls, idx, (T k).1, (T k).2.1, (T k).2.2.1, host) ∈ mNF) (hfin : (T k).2.2.2 = false) (er : rr = some a) (ha : σ.1[a]? = some (ci, 0)) (kk : WP X d b M pc' l st (sI σ a k z) Q) : WP X d b M pc l (vI z :: vP rr :: st) σ Q := by
  subst er
  subst hp
  intro g R p lau e s m args below meth c H locs cells slots mc ms real hC h1 h2 hE hH hS hr
  have hnf : narrow (ty k) (Value.int (Int32.ofInt z)) = Value.int (Int32.ofInt z) ∧ fits (ty k) (Value.int (Int32.ofInt z)) = true := by rw [hty]; exact ⟨rfl, rfl⟩
  refine va_putN hC.1 hC.2.1 hC.2.2.2.2.2.2.2.1 hM.2.1 ty hM.2.2.1 hM.2.2.2.1 hC.2.2.2.2.1 hC.2.2.2.2.2.2.2.2.1 hH (mD g σ) hS a (mA_obj ha hM.2.2.2.2.2) hM.1 k hk (va_Nw.use rfl (hC.2.2.2.2.2.2.2.2.2.1.1 _ hw)) (fun _ h => h) hfin (hM.2.2.1 k hk) hnf.1 hnf.2 (by rw [List.length_mapIdx]; exact (List.getElem?_eq_some_iff.mp hft).1) hd (fun H1 locs1 hP1 hD1 hS1 => ?_)
  refine kk g R p lau e s m args below meth c H1 locs1 cells slots mc ms real hC h1 h2 hE ?_ hS1 hr
  unfold mH
  rw [← mH_putI (g := g) ha hM.2.2.2.2.2 hft]
  exact hP1
theorem r_putZN {host : String} {rr : Option Nat} {ci k a : Nat} {C : String} {T : u_T} {N idx : Nat} {ty : Nat → FieldType} {z : Int} (hd : decode M.1 pc = .ok (.putfield idx, 3)) (hp : pc + 3 = pc') (hM : mCls ci C T N ty) (hk : k < N) (hft : (mFT ci)[k]? = some 0) (hty : ty k = .boolean) (hz : z = 0 ∨ z = 1) (hw : (M.2.1.cls, idx, (T k).1, (T k).2.1, (T k).2.2.1, host) ∈ mNF) (hfin : (T k).2.2.2 = false) (er : rr = some a) (ha : σ.1[a]? = some (ci, 0)) (kk : WP X d b M pc' l st (sI σ a k z) Q) : WP X d b M pc l (vI z :: vP rr :: st) σ Q := by
  subst er
  subst hp
  intro g R p lau e s m args below meth c H locs cells slots mc ms real hC h1 h2 hE hH hS hr
  have hnf : narrow (ty k) (Value.int (Int32.ofInt z)) = Value.int (Int32.ofInt z) ∧ fits (ty k) (Value.int (Int32.ofInt z)) = true := by rw [hty]; rcases hz with rfl | rfl <;> exact ⟨by decide, by decide⟩
  refine va_putN hC.1 hC.2.1 hC.2.2.2.2.2.2.2.1 hM.2.1 ty hM.2.2.1 hM.2.2.2.1 hC.2.2.2.2.1 hC.2.2.2.2.2.2.2.2.1 hH (mD g σ) hS a (mA_obj ha hM.2.2.2.2.2) hM.1 k hk (va_Nw.use rfl (hC.2.2.2.2.2.2.2.2.2.1.1 _ hw)) (fun _ h => h) hfin (hM.2.2.1 k hk) hnf.1 hnf.2 (by rw [List.length_mapIdx]; exact (List.getElem?_eq_some_iff.mp hft).1) hd (fun H1 locs1 hP1 hD1 hS1 => ?_)
  refine kk g R p lau e s m args below meth c H1 locs1 cells slots mc ms real hC h1 h2 hE ?_ hS1 hr
  unfold mH
  rw [← mH_putI (g := g) ha hM.2.2.2.2.2 hft]
  exact hP1
theorem r_putRN {host : String} {rr : Option Nat} {ci k a : Nat} {C : String} {T : u_T} {N idx : Nat} {ty : Nat → FieldType} {r : Option Nat} (hd : decode M.1 pc = .ok (.putfield idx, 3)) (hp : pc + 3 = pc') (hM : mCls ci C T N ty) (hk : k < N) (hft : (mFT ci)[k]? = some 2) (hty : (∃ C, ty k = .object C) ∨ ∃ C, ty k = .array C) (hw : (M.2.1.cls, idx, (T k).1, (T k).2.1, (T k).2.2.1, host) ∈ mNF) (hfin : (T k).2.2.2 = false) (er : rr = some a) (ha : σ.1[a]? = some (ci, 0)) (kk : WP X d b M pc' l st (sR σ a k r) Q) : WP X d b M pc l (vP r :: vP rr :: st) σ Q := by
  subst er
  subst hp
  intro g R p lau e s m args below meth c H locs cells slots mc ms real hC h1 h2 hE hH hS hr
  have hnf : narrow (ty k) (va_rf (r.map (g.2.2.1 + ·))) = va_rf (r.map (g.2.2.1 + ·)) ∧ fits (ty k) (va_rf (r.map (g.2.2.1 + ·))) = true := by
    cases r <;> rcases hty with ⟨C, hty⟩ | ⟨C, hty⟩ <;> rw [hty] <;> exact ⟨rfl, rfl⟩
  refine va_putN hC.1 hC.2.1 hC.2.2.2.2.2.2.2.1 hM.2.1 ty hM.2.2.1 hM.2.2.2.1 hC.2.2.2.2.1 hC.2.2.2.2.2.2.2.2.1 hH (mD g σ) hS a (mA_obj ha hM.2.2.2.2.2) hM.1 k hk (va_Nw.use rfl (hC.2.2.2.2.2.2.2.2.2.1.1 _ hw)) (fun _ h => h) hfin (hM.2.2.1 k hk) hnf.1 hnf.2 (by rw [List.length_mapIdx]; exact (List.getElem?_eq_some_iff.mp hft).1) hd (fun H1 locs1 hP1 hD1 hS1 => ?_)
  refine kk g R p lau e s m args below meth c H1 locs1 cells slots mc ms real hC h1 h2 hE ?_ hS1 hr
  unfold mH
  rw [← mH_putR (g := g) ha hM.2.2.2.2.2 hft]
  exact hP1
theorem r_putHN {host : String} {rr : Option Nat} {ci k a : Nat} {C : String} {T : u_T} {N idx : Nat} {ty : Nat → FieldType} {z : Int} (hd : decode M.1 pc = .ok (.putfield idx, 3)) (hp : pc + 3 = pc') (hM : mCls ci C T N ty) (hk : k < N) (hft : (mFT ci)[k]? = some 3) (hty : (∃ C, ty k = .object C) ∨ ∃ C, ty k = .array C) (hw : (M.2.1.cls, idx, (T k).1, (T k).2.1, (T k).2.2.1, host) ∈ mNF) (hfin : (T k).2.2.2 = false) (er : rr = some a) (ha : σ.1[a]? = some (ci, 0)) (kk : WP X d b M pc' l st (sI σ a k z) Q) : WP X d b M pc l (vP (hB z) :: vP rr :: st) σ Q := by
  subst er
  subst hp
  intro g R p lau e s m args below meth c H locs cells slots mc ms real hC h1 h2 hE hH hS hr
  have hnf : narrow (ty k) (va_rf ((hB z).map (g.2.2.1 + ·))) = va_rf ((hB z).map (g.2.2.1 + ·)) ∧ fits (ty k) (va_rf ((hB z).map (g.2.2.1 + ·))) = true := by
    cases hB z <;> rcases hty with ⟨C, hty⟩ | ⟨C, hty⟩ <;> rw [hty] <;> exact ⟨rfl, rfl⟩
  refine va_putN hC.1 hC.2.1 hC.2.2.2.2.2.2.2.1 hM.2.1 ty hM.2.2.1 hM.2.2.2.1 hC.2.2.2.2.1 hC.2.2.2.2.2.2.2.2.1 hH (mD g σ) hS a (mA_obj ha hM.2.2.2.2.2) hM.1 k hk (va_Nw.use rfl (hC.2.2.2.2.2.2.2.2.2.1.1 _ hw)) (fun _ h => h) hfin (hM.2.2.1 k hk) hnf.1 hnf.2 (by rw [List.length_mapIdx]; exact (List.getElem?_eq_some_iff.mp hft).1) hd (fun H1 locs1 hP1 hD1 hS1 => ?_)
  refine kk g R p lau e s m args below meth c H1 locs1 cells slots mc ms real hC h1 h2 hE ?_ hS1 hr
  unfold mH
  rw [← mH_putH (g := g) ha hM.2.2.2.2.2 hft]
  exact hP1
theorem r_getsO {C nm ds : String} {idx k : Nat} (hd : decode M.1 pc = .ok (.getstatic idx, 3)) (hp : pc + 3 = pc') (hz : (C, nm, ds, k) ∈ mSS) (hw : Cond.fieldLink M.2.1.cls idx C nm ds ∈ mT) (kk : WP X d b M pc' l (vO k :: st) σ Q) : WP X d b M pc l st σ Q := by
  subst hp
  intro g R p lau e s m args below meth c H locs cells slots mc ms real hC h1 h2 hE hH hS hr
  exact va_gets hC.1 hC.2.1 (hC.2.2.2.2.2.2.2.2.2.1.2.2.2.2.1 _ hz) hS hC.2.2.2.2.1 (hC.2.2.2.2.2.2.2.1 _ hw) (fun _ h => h) hd (kk g R p lau e s m args below meth c H locs cells slots mc ms real hC h1 h2 hE hH hS hr)
theorem r_getsC {idx : Nat} (hd : decode M.1 pc = .ok (.getstatic idx, 3)) (hp : pc + 3 = pc') (hw : Cond.fieldLink M.2.1.cls idx "java/lang/String" "COMPACT_STRINGS" "Z" ∈ mT) (kk : WP X d b M pc' l (vI 1 :: st) σ Q) : WP X d b M pc l st σ Q := by
  subst hp
  intro g R p lau e s m args below meth c H locs cells slots mc ms real hC h1 h2 hE hH hS hr
  exact va_gets hC.1 hC.2.1 hC.2.2.2.2.2.2.2.2.2.1.2.2.2.2.2.1 hS hC.2.2.2.2.1 (hC.2.2.2.2.2.2.2.1 _ hw) (fun _ h => h) hd (kk g R p lau e s m args below meth c H locs cells slots mc ms real hC h1 h2 hE hH hS hr)
theorem mO_tab {X : mX} {g : mG} {s : State} (h : mRO X g s) {k : Nat} {ty : FieldType} {xs : List Int} (hm : (k, ty, xs) ∈ mTB) : ∃ a, g.2.2.2 k = some a ∧ va_T ty a xs.length (fun j => .int (Int32.ofInt (xs.getD j 0))) (mA g) s s.heap := h.2.2.2.2.2.2.1 _ hm
def strB (k : Nat) : List Int := match k with
  | 1 => [107, 101, 101, 110, 32]
  | 2 => [48, 49, 50, 51, 52, 53, 54, 55, 56, 57]
  | 3 => [112, 107, 118, 116, 110, 104]
  | 4 => [60, 61, 62]
  | 5 => [100, 117, 108, 108, 32]
  | _ => [114, 101, 115, 116, 32]
theorem strB_in {k : Nat} (h1 : 1 ≤ k) (h6 : k ≤ 6) : (20 + k, FieldType.byte, strB k) ∈ mTB := by
  have : k = 1 ∨ k = 2 ∨ k = 3 ∨ k = 4 ∨ k = 5 ∨ k = 6 := by omega
  rcases this with rfl | rfl | rfl | rfl | rfl | rfl <;> decide +kernel
theorem r_getSV {idx k : Nat} (hd : decode M.1 pc = .ok (.getfield idx, 3)) (hp : pc + 3 = pc') (h1k : 1 ≤ k) (hk6 : k ≤ 6) (hw : Cond.fieldLink M.2.1.cls idx "java/lang/String" "value" "[B" ∈ mT) (kk : WP X d b M pc' l (vO (20 + k) :: st) σ Q) : WP X d b M pc l (vO k :: st) σ Q := by
  subst hp
  intro g R p lau e s m args below meth c H locs cells slots mc ms real hC h1 h2 hE hH hS hr
  obtain ⟨a, e1, e2, e3, e4⟩ := hC.2.2.2.2.2.2.2.2.2.1.2.2.2.2.2.2.2.1 k h1k hk6
  have hk := kk g R p lau e s m args below meth c H locs cells slots mc ms real hC h1 h2 hE hH hS hr
  simp only [List.map_cons, rv] at hk ⊢
  rw [e1]
  exact vk_getf hC.1 hC.2.1 e4 hS hC.2.2.2.2.1 (hC.2.2.2.2.2.2.2.1 _ hw) (fun _ h => h) hd hk
theorem r_getSC {idx k : Nat} (hd : decode M.1 pc = .ok (.getfield idx, 3)) (hp : pc + 3 = pc') (h1k : 1 ≤ k) (hk6 : k ≤ 6) (hw : Cond.fieldLink M.2.1.cls idx "java/lang/String" "coder" "B" ∈ mT) (kk : WP X d b M pc' l (vI 0 :: st) σ Q) : WP X d b M pc l (vO k :: st) σ Q := by
  subst hp
  intro g R p lau e s m args below meth c H locs cells slots mc ms real hC h1 h2 hE hH hS hr
  obtain ⟨a, e1, e2, e3, e4⟩ := hC.2.2.2.2.2.2.2.2.2.1.2.2.2.2.2.2.2.1 k h1k hk6
  have hk := kk g R p lau e s m args below meth c H locs cells slots mc ms real hC h1 h2 hE hH hS hr
  simp only [List.map_cons, rv] at hk ⊢
  rw [e1]
  exact vk_getf hC.1 hC.2.1 e3 hS hC.2.2.2.2.1 (hC.2.2.2.2.2.2.2.1 _ hw) (fun _ h => h) hd hk
theorem r_iald {rr : Option Nat} {a n : Nat} {i : Int} (hd : decode M.1 pc = .ok (.iaload, 1)) (hp : pc + 1 = pc') (er : rr = some a) (ha : σ.1[a]? = some (50, n)) (h0 : 0 ≤ i) (hi : i < n) (hn : n ≤ 2147483647) (kk : WP X d b M pc' l (vI (σ.2.1 a i.toNat) :: st) σ Q) : WP X d b M pc l (vI i :: vP rr :: st) σ Q := by
  subst er
  subst hp
  intro g R p lau e s m args below meth c H locs cells slots mc ms real hC h1 h2 hE hH hS hr
  have hk := kk g R p lau e s m args below meth c H locs cells slots mc ms real hC h1 h2 hE hH hS hr
  refine va_iald hC.1 hC.2.1 hC.2.2.2.2.2.2.2.2.1 hH a 0 (mA_int (t := 0) ha (by decide)) (mTys_at g (t := 0) (by decide)) (iI_in h0 hi hn) hd ?_
  rw [iI_clamp h0 (by omega)]
  exact hk
theorem r_bald {rr : Option Nat} {a n : Nat} {i : Int} (hd : decode M.1 pc = .ok (.baload, 1)) (hp : pc + 1 = pc') (er : rr = some a) (ha : σ.1[a]? = some (51, n)) (h0 : 0 ≤ i) (hi : i < n) (hn : n ≤ 2147483647) (kk : WP X d b M pc' l (vI (σ.2.1 a i.toNat) :: st) σ Q) : WP X d b M pc l (vI i :: vP rr :: st) σ Q := by
  subst er
  subst hp
  intro g R p lau e s m args below meth c H locs cells slots mc ms real hC h1 h2 hE hH hS hr
  have hk := kk g R p lau e s m args below meth c H locs cells slots mc ms real hC h1 h2 hE hH hS hr
  refine va_bald hC.1 hC.2.1 hC.2.2.2.2.2.2.2.2.1 hH a 1 (mA_int (t := 1) ha (by decide)) (mTys_at g (t := 1) (by decide)) (iI_in h0 hi hn) hd ?_
  rw [iI_clamp h0 (by omega)]
  exact hk
theorem r_zald {rr : Option Nat} {a n : Nat} {i : Int} (hd : decode M.1 pc = .ok (.baload, 1)) (hp : pc + 1 = pc') (er : rr = some a) (ha : σ.1[a]? = some (52, n)) (h0 : 0 ≤ i) (hi : i < n) (hn : n ≤ 2147483647) (kk : WP X d b M pc' l (vI (σ.2.1 a i.toNat) :: st) σ Q) : WP X d b M pc l (vI i :: vP rr :: st) σ Q := by
  subst er
  subst hp
  intro g R p lau e s m args below meth c H locs cells slots mc ms real hC h1 h2 hE hH hS hr
  have hk := kk g R p lau e s m args below meth c H locs cells slots mc ms real hC h1 h2 hE hH hS hr
  refine va_zald hC.1 hC.2.1 hC.2.2.2.2.2.2.2.2.1 hH a 2 (mA_int (t := 2) ha (by decide)) (mTys_at g (t := 2) (by decide)) (iI_in h0 hi hn) hd ?_
  rw [iI_clamp h0 (by omega)]
  exact hk
theorem r_lald {rr : Option Nat} {a n : Nat} {i : Int} (hd : decode M.1 pc = .ok (.laload, 1)) (hp : pc + 1 = pc') (er : rr = some a) (ha : σ.1[a]? = some (53, n)) (h0 : 0 ≤ i) (hi : i < n) (hn : n ≤ 2147483647) (kk : WP X d b M pc' l (vL (σ.2.2.1 a i.toNat) :: st) σ Q) : WP X d b M pc l (vI i :: vP rr :: st) σ Q := by
  subst er
  subst hp
  intro g R p lau e s m args below meth c H locs cells slots mc ms real hC h1 h2 hE hH hS hr
  have hk := kk g R p lau e s m args below meth c H locs cells slots mc ms real hC h1 h2 hE hH hS hr
  refine va_lald hC.1 hC.2.1 hC.2.2.2.2.2.2.2.2.1 hH a 3 (mA_long ha) (mTys_at g (t := 3) (by decide)) (iI_in h0 hi hn) hd ?_
  rw [iI_clamp h0 (by omega)]
  exact hk
theorem r_aald {rr : Option Nat} {a n t : Nat} {i : Int} {C : String} (ht4 : 4 ≤ t) (ht8 : t < 8) (hty : mty t = .object C) (hd : decode M.1 pc = .ok (.aaload, 1)) (hp : pc + 1 = pc') (er : rr = some a) (ha : σ.1[a]? = some (50 + t, n)) (h0 : 0 ≤ i) (hi : i < n) (hn : n ≤ 2147483647) (kk : WP X d b M pc' l (vP (σ.2.2.2 a i.toNat) :: st) σ Q) : WP X d b M pc l (vI i :: vP rr :: st) σ Q := by
  subst er
  subst hp
  intro g R p lau e s m args below meth c H locs cells slots mc ms real hC h1 h2 hE hH hS hr
  have hk := kk g R p lau e s m args below meth c H locs cells slots mc ms real hC h1 h2 hE hH hS hr
  refine va_aldq hC.1 hC.2.1 hC.2.2.2.2.2.2.2.2.1 hH a t (mA_ref ha ht4) (by rw [mTys_at g ht8, hty]) (iI_in h0 hi hn) hd ?_
  rw [iI_clamp h0 (by omega)]
  exact hk
theorem r_Oald {k : Nat} {xs : List Int} {i : Int} (hd : decode M.1 pc = .ok (.iaload, 1)) (hp : pc + 1 = pc') (hm : (k, FieldType.int, xs) ∈ mTB) (h0 : 0 ≤ i) (hi : i < xs.length) (hn : xs.length ≤ 2147483647) (kk : WP X d b M pc' l (vI (xs.getD i.toNat 0) :: st) σ Q) : WP X d b M pc l (vI i :: vO k :: st) σ Q := by
  subst hp
  intro g R p lau e s m args below meth c H locs cells slots mc ms real hC h1 h2 hE hH hS hr
  obtain ⟨a, e1, cell, q1, q2, q3, q4, q5, q6, q7⟩ := mO_tab hC.2.2.2.2.2.2.2.2.2.1 hm
  have hk := kk g R p lau e s m args below meth c H locs cells slots mc ms real hC h1 h2 hE hH hS hr
  simp only [List.map_cons, rv] at hk ⊢
  rw [e1]
  have hin := iI_in h0 hi hn
  exact W.iald hC.1 hC.2.1 (by rw [hS.2.1 a (Array.getElem?_eq_some_iff.mp q1).1 q7]; exact q1) q2 q3 (fun h => hin (h.elim Or.inl (fun h => Or.inr (Nat.le_trans q4 h)))) (v := .int (Int32.ofInt (xs.getD i.toNat 0))) (by rw [iI_clamp h0 (by omega)]; exact q6 _ (by omega)) rfl rfl hd hk
theorem r_Obald {k : Nat} {xs : List Int} {i : Int} (hd : decode M.1 pc = .ok (.baload, 1)) (hp : pc + 1 = pc') (hm : (k, FieldType.byte, xs) ∈ mTB) (h0 : 0 ≤ i) (hi : i < xs.length) (hn : xs.length ≤ 2147483647) (kk : WP X d b M pc' l (vI (xs.getD i.toNat 0) :: st) σ Q) : WP X d b M pc l (vI i :: vO k :: st) σ Q := by
  subst hp
  intro g R p lau e s m args below meth c H locs cells slots mc ms real hC h1 h2 hE hH hS hr
  obtain ⟨a, e1, cell, q1, q2, q3, q4, q5, q6, q7⟩ := mO_tab hC.2.2.2.2.2.2.2.2.2.1 hm
  have hk := kk g R p lau e s m args below meth c H locs cells slots mc ms real hC h1 h2 hE hH hS hr
  simp only [List.map_cons, rv] at hk ⊢
  rw [e1]
  have hin := iI_in h0 hi hn
  exact W.bald hC.1 hC.2.1 (by rw [hS.2.1 a (Array.getElem?_eq_some_iff.mp q1).1 q7]; exact q1) q2 q3 (fun h => hin (h.elim Or.inl (fun h => Or.inr (Nat.le_trans q4 h)))) (v := .int (Int32.ofInt (xs.getD i.toNat 0))) (by rw [iI_clamp h0 (by omega)]; exact q6 _ (by omega)) rfl rfl hd hk
theorem r_Olen {k : Nat} {ty : FieldType} {xs : List Int} (hd : decode M.1 pc = .ok (.arraylength, 1)) (hp : pc + 1 = pc') (hm : (k, ty, xs) ∈ mTB) (kk : WP X d b M pc' l (vI xs.length :: st) σ Q) : WP X d b M pc l (vO k :: st) σ Q := by
  subst hp
  intro g R p lau e s m args below meth c H locs cells slots mc ms real hC h1 h2 hE hH hS hr
  obtain ⟨a, e1, cell, q1, q2, q3, q4, q5, q6, q7⟩ := mO_tab hC.2.2.2.2.2.2.2.2.2.1 hm
  have hk := kk g R p lau e s m args below meth c H locs cells slots mc ms real hC h1 h2 hE hH hS hr
  simp only [List.map_cons, rv] at hk ⊢
  rw [e1]
  exact W.alen hC.1 hC.2.1 (by rw [hS.2.1 a (Array.getElem?_eq_some_iff.mp q1).1 q7]; exact q1) q2 (q5.trans rfl) rfl rfl hd hk
theorem r_Xald {i : Int} (hd : decode M.1 pc = .ok (.iaload, 1)) (hp : pc + 1 = pc') (h0 : 0 ≤ i) (hi : i < X.1) (hn : X.1 ≤ 2147483647) (kk : WP X d b M pc' l (vI (X.2 i.toNat) :: st) σ Q) : WP X d b M pc l (vI i :: vO 0 :: st) σ Q := by
  subst hp
  intro g R p lau e s m args below meth c H locs cells slots mc ms real hC h1 h2 hE hH hS hr
  obtain ⟨a, e1, e2, e3⟩ := hC.2.2.2.2.2.2.2.2.2.1.2.2.2.2.2.2.2.2
  have hk := kk g R p lau e s m args below meth c H locs cells slots mc ms real hC h1 h2 hE hH hS hr
  simp only [List.map_cons, rv] at hk ⊢
  rw [e1]
  refine va_sld hC.1 hC.2.1 e2 (by obtain ⟨scr, w1, -⟩ := e2; exact (Array.getElem?_eq_some_iff.mp w1).1) e3 hS (iI_in h0 hi hn) hd ?_
  rw [iI_clamp h0 (by omega)]
  exact hk
theorem r_Xlen (hd : decode M.1 pc = .ok (.arraylength, 1)) (hp : pc + 1 = pc') (kk : WP X d b M pc' l (vI X.1 :: st) σ Q) : WP X d b M pc l (vO 0 :: st) σ Q := by
  subst hp
  intro g R p lau e s m args below meth c H locs cells slots mc ms real hC h1 h2 hE hH hS hr
  obtain ⟨a, e1, e2, e3⟩ := hC.2.2.2.2.2.2.2.2.2.1.2.2.2.2.2.2.2.2
  have hk := kk g R p lau e s m args below meth c H locs cells slots mc ms real hC h1 h2 hE hH hS hr
  simp only [List.map_cons, rv] at hk ⊢
  rw [e1]
  exact va_slen hC.1 hC.2.1 e2 (by obtain ⟨scr, w1, -⟩ := e2; exact (Array.getElem?_eq_some_iff.mp w1).1) e3 hS hd hk
theorem r_alenI {rr : Option Nat} {a n t : Nat} (hd : decode M.1 pc = .ok (.arraylength, 1)) (hp : pc + 1 = pc') (ht : t < 3) (er : rr = some a) (ha : σ.1[a]? = some (50 + t, n)) (kk : WP X d b M pc' l (vI n :: st) σ Q) : WP X d b M pc l (vP rr :: st) σ Q := by
  subst er
  subst hp
  intro g R p lau e s m args below meth c H locs cells slots mc ms real hC h1 h2 hE hH hS hr
  exact va_alen hC.1 hC.2.1 hC.2.2.2.2.2.2.2.2.1 hH a t (mA_int ha ht) (mTys_at g (t := t) (by omega)) rfl hd (kk g R p lau e s m args below meth c H locs cells slots mc ms real hC h1 h2 hE hH hS hr)
theorem r_alenL {rr : Option Nat} {a n : Nat} (hd : decode M.1 pc = .ok (.arraylength, 1)) (hp : pc + 1 = pc') (er : rr = some a) (ha : σ.1[a]? = some (53, n)) (kk : WP X d b M pc' l (vI n :: st) σ Q) : WP X d b M pc l (vP rr :: st) σ Q := by
  subst er
  subst hp
  intro g R p lau e s m args below meth c H locs cells slots mc ms real hC h1 h2 hE hH hS hr
  exact va_alen hC.1 hC.2.1 hC.2.2.2.2.2.2.2.2.1 hH a 3 (mA_long ha) (mTys_at g (t := 3) (by decide)) rfl hd (kk g R p lau e s m args below meth c H locs cells slots mc ms real hC h1 h2 hE hH hS hr)
theorem r_alenR {rr : Option Nat} {a n t : Nat} (hd : decode M.1 pc = .ok (.arraylength, 1)) (hp : pc + 1 = pc') (ht : 4 ≤ t) (ht8 : t < 8) (er : rr = some a) (ha : σ.1[a]? = some (50 + t, n)) (kk : WP X d b M pc' l (vI n :: st) σ Q) : WP X d b M pc l (vP rr :: st) σ Q := by
  subst er
  subst hp
  intro g R p lau e s m args below meth c H locs cells slots mc ms real hC h1 h2 hE hH hS hr
  exact va_alen hC.1 hC.2.1 hC.2.2.2.2.2.2.2.2.1 hH a t (mA_ref ha ht) (mTys_at g (t := t) ht8) rfl hd (kk g R p lau e s m args below meth c H locs cells slots mc ms real hC h1 h2 hE hH hS hr)
theorem r_iast {rr : Option Nat} {a n : Nat} {i z : Int} (hd : decode M.1 pc = .ok (.iastore, 1)) (hp : pc + 1 = pc') (er : rr = some a) (ha : σ.1[a]? = some (50, n)) (h0 : 0 ≤ i) (hi : i < n) (hn : n ≤ 2147483647) (kk : WP X d b M pc' l st (sI σ a i.toNat z) Q) : WP X d b M pc l (vI z :: vI i :: vP rr :: st) σ Q := by
  subst er
  subst hp
  intro g R p lau e s m args below meth c H locs cells slots mc ms real hC h1 h2 hE hH hS hr
  refine va_iast hC.1 hC.2.1 hC.2.2.2.2.2.2.2.2.1 hH (mD g σ) hS a 0 (mA_int (t := 0) ha (by decide)) (mTys_at g (t := 0) (by decide)) (iI_in h0 hi hn) hd (fun H1 locs1 hP1 hD1 hS1 => ?_)
  rw [iI_clamp h0 (by omega), mH_astI (t := 0) ha (by decide)] at hP1
  exact kk g R p lau e s m args below meth c H1 locs1 cells slots mc ms real hC h1 h2 hE hP1 hS1 hr
theorem r_last {rr : Option Nat} {a n : Nat} {i z : Int} (hd : decode M.1 pc = .ok (.lastore, 1)) (hp : pc + 1 = pc') (er : rr = some a) (ha : σ.1[a]? = some (53, n)) (h0 : 0 ≤ i) (hi : i < n) (hn : n ≤ 2147483647) (kk : WP X d b M pc' l st (sL σ a i.toNat z) Q) : WP X d b M pc l (vL z :: vI i :: vP rr :: st) σ Q := by
  subst er
  subst hp
  intro g R p lau e s m args below meth c H locs cells slots mc ms real hC h1 h2 hE hH hS hr
  refine va_last hC.1 hC.2.1 hC.2.2.2.2.2.2.2.2.1 hH (mD g σ) hS a 3 (mA_long ha) (mTys_at g (t := 3) (by decide)) (iI_in h0 hi hn) hd (fun H1 locs1 hP1 hD1 hS1 => ?_)
  rw [iI_clamp h0 (by omega), mH_astL ha] at hP1
  exact kk g R p lau e s m args below meth c H1 locs1 cells slots mc ms real hC h1 h2 hE hP1 hS1 hr
theorem nar_b {z : Int} (h : -128 ≤ z ∧ z ≤ 127) : vp_nar .byte (Int32.ofInt z) = Int32.ofInt z := by
  rw [vp_nar_byte, ← Int32.toInt_inj, Int8.toInt_toInt32, Int32.toInt_toInt8, iI_toInt ⟨by omega, by omega⟩]
  exact Int.bmod_eq_of_le (by omega) (by omega)
theorem nar_z {z : Int} (h : z = 0 ∨ z = 1) : vp_nar .boolean (Int32.ofInt z) = Int32.ofInt z := by
  rcases h with rfl | rfl <;> decide
theorem r_bast {rr : Option Nat} {a n : Nat} {i z : Int} (hd : decode M.1 pc = .ok (.bastore, 1)) (hp : pc + 1 = pc') (er : rr = some a) (ha : σ.1[a]? = some (51, n)) (h0 : 0 ≤ i) (hi : i < n) (hn : n ≤ 2147483647) (hz : -128 ≤ z ∧ z ≤ 127) (kk : WP X d b M pc' l st (sI σ a i.toNat z) Q) : WP X d b M pc l (vI z :: vI i :: vP rr :: st) σ Q := by
  subst er
  subst hp
  intro g R p lau e s m args below meth c H locs cells slots mc ms real hC h1 h2 hE hH hS hr
  refine va_bast hC.1 hC.2.1 hC.2.2.2.2.2.2.2.2.1 hH (mD g σ) hS a 1 (mA_int (t := 1) ha (by decide)) (mTys_at g (t := 1) (by decide)) (iI_in h0 hi hn) hd (fun H1 locs1 hP1 hD1 hS1 => ?_)
  rw [iI_clamp h0 (by omega), nar_b hz, mH_astI (t := 1) ha (by decide)] at hP1
  exact kk g R p lau e s m args below meth c H1 locs1 cells slots mc ms real hC h1 h2 hE hP1 hS1 hr
theorem r_zast {rr : Option Nat} {a n : Nat} {i z : Int} (hd : decode M.1 pc = .ok (.bastore, 1)) (hp : pc + 1 = pc') (er : rr = some a) (ha : σ.1[a]? = some (52, n)) (h0 : 0 ≤ i) (hi : i < n) (hn : n ≤ 2147483647) (hz : z = 0 ∨ z = 1) (kk : WP X d b M pc' l st (sI σ a i.toNat z) Q) : WP X d b M pc l (vI z :: vI i :: vP rr :: st) σ Q := by
  subst er
  subst hp
  intro g R p lau e s m args below meth c H locs cells slots mc ms real hC h1 h2 hE hH hS hr
  refine va_zast hC.1 hC.2.1 hC.2.2.2.2.2.2.2.2.1 hH (mD g σ) hS a 2 (mA_int (t := 2) ha (by decide)) (mTys_at g (t := 2) (by decide)) (iI_in h0 hi hn) hd (fun H1 locs1 hP1 hD1 hS1 => ?_)
  rw [iI_clamp h0 (by omega), nar_z hz, mH_astI (t := 2) ha (by decide)] at hP1
  exact kk g R p lau e s m args below meth c H1 locs1 cells slots mc ms real hC h1 h2 hE hP1 hS1 hr
theorem r_aast {rr rq : Option Nat} {a n t v ci : Nat} {C : String} {T : u_T} {N : Nat} {ty : Nat → FieldType} {i : Int} (hd : decode M.1 pc = .ok (.aastore, 1)) (hp : pc + 1 = pc') (hM : mCls ci C T N ty) (ht4 : 4 ≤ t) (ht8 : t < 8) (hty : mty t = .object C) (er : rr = some a) (eq : rq = some v) (ha : σ.1[a]? = some (50 + t, n)) (hv : σ.1[v]? = some (ci, 0)) (h0 : 0 ≤ i) (hi : i < n) (hn : n ≤ 2147483647) (kk : WP X d b M pc' l st (sR σ a i.toNat (some v)) Q) : WP X d b M pc l (vP rq :: vI i :: vP rr :: st) σ Q := by
  subst er
  subst eq
  subst hp
  intro g R p lau e s m args below meth c H locs cells slots mc ms real hC h1 h2 hE hH hS hr
  refine va_astq hC.1 hC.2.1 hC.2.2.2.2.2.2.2.2.1 hH (mD g σ) hS a t v ci (mA_ref ha ht4) (by rw [mTys_at g ht8, hty]) (mA_obj hv hM.2.2.2.2.2) hM.1 (iI_in h0 hi hn) hd (fun H1 locs1 hP1 hD1 hS1 => ?_)
  rw [iI_clamp h0 (by omega), mH_astR ha ht4] at hP1
  exact kk g R p lau e s m args below meth c H1 locs1 cells slots mc ms real hC h1 h2 hE hP1 hS1 hr
theorem r_iret {z : Int} (hd : decode M.1 pc = .ok (.ireturn, 1)) (hb : b.1 = 0) (ht : M.2.2.2 = some .int) (hQ : Q (some (vI z)) σ) : WP X d b M pc l [vI z] σ Q := by
  intro g R p lau e s m args below meth c H locs cells slots mc ms real hC h1 h2 hE hH hS hr
  have hrr := hC.2.2.1
  refine W.widen (k := mc) (n := ms) (by omega) (by omega) ?_
  have h0 : cells = mc := by omega
  exact W.iret hC.1 hC.2.1 (hrr.trans ht) (fun t ht hW => ⟨(some (vI z)), σ, rfl, hQ, by rw [ht]; exact hH, by omega, hS.F ht⟩) hS.2.2 hd hC.2.2.2.2.2.2.1
theorem r_zret {z : Int} (hd : decode M.1 pc = .ok (.ireturn, 1)) (hb : b.1 = 0) (ht : M.2.2.2 = some .boolean) (hz : z = 0 ∨ z = 1) (hQ : Q (some (vI z)) σ) : WP X d b M pc l [vI z] σ Q := by
  intro g R p lau e s m args below meth c H locs cells slots mc ms real hC h1 h2 hE hH hS hr
  have hrr := hC.2.2.1
  refine W.widen (k := mc) (n := ms) (by omega) (by omega) ?_
  have h0 : cells = mc := by omega
  exact W.zret hC.1 hC.2.1 (hrr.trans ht) (by rcases hz with rfl | rfl <;> decide) (fun t ht hW => ⟨(some (vI z)), σ, rfl, hQ, by rw [ht]; exact hH, by omega, hS.F ht⟩) hS.2.2 hd hC.2.2.2.2.2.2.1
theorem r_cret {z : Int} (hd : decode M.1 pc = .ok (.ireturn, 1)) (hb : b.1 = 0) {ty : FieldType} (ht : M.2.2.2 = some ty) (hz : narrow ty (.int (Int32.ofInt z)) = .int (Int32.ofInt z)) (hQ : Q (some (vI z)) σ) : WP X d b M pc l [vI z] σ Q := by
  intro g R p lau e s m args below meth c H locs cells slots mc ms real hC h1 h2 hE hH hS hr
  have hrr := hC.2.2.1
  refine W.widen (k := mc) (n := ms) (by omega) (by omega) ?_
  have h0 : cells = mc := by omega
  exact W.zret hC.1 hC.2.1 (hrr.trans ht) hz (fun t ht hW => ⟨(some (vI z)), σ, rfl, hQ, by rw [ht]; exact hH, by omega, hS.F ht⟩) hS.2.2 hd hC.2.2.2.2.2.2.1
theorem r_lret {z : Int} (hd : decode M.1 pc = .ok (.lreturn, 1)) (hb : b.1 = 0) (ht : M.2.2.2 = some .long) (hQ : Q (some (vL z)) σ) : WP X d b M pc l [vL z] σ Q := by
  intro g R p lau e s m args below meth c H locs cells slots mc ms real hC h1 h2 hE hH hS hr
  have hrr := hC.2.2.1
  refine W.widen (k := mc) (n := ms) (by omega) (by omega) ?_
  have h0 : cells = mc := by omega
  exact W.lret hC.1 hC.2.1 (hrr.trans ht) (fun t ht hW => ⟨(some (vL z)), σ, rfl, hQ, by rw [ht]; exact hH, by omega, hS.F ht⟩) hS.2.2 hd hC.2.2.2.2.2.2.1
theorem r_vret (hd : decode M.1 pc = .ok (.return_, 1)) (hb : b.1 = 0) (ht : M.2.2.2 = none) (hQ : Q none σ) : WP X d b M pc l [] σ Q := by
  intro g R p lau e s m args below meth c H locs cells slots mc ms real hC h1 h2 hE hH hS hr
  have hrr := hC.2.2.1
  refine W.widen (k := mc) (n := ms) (by omega) (by omega) ?_
  have h0 : cells = mc := by omega
  exact W.vret hC.1 hC.2.1 (hrr.trans ht) (fun t ht hW => ⟨none, σ, rfl, hQ, by rw [ht]; exact hH, by omega, hS.F ht⟩) hS.2.2 hd hC.2.2.2.2.2.2.1
theorem r_aret {r : Option Nat} {ty : FieldType} (hd : decode M.1 pc = .ok (.areturn, 1)) (hb : b.1 = 0) (ht : M.2.2.2 = some ty) (hty : (∃ n, ty = .object n) ∨ ∃ t, ty = .array t) (hQ : Q (some (vP r)) σ) : WP X d b M pc l [vP r] σ Q := by
  intro g R p lau e s m args below meth c H locs cells slots mc ms real hC h1 h2 hE hH hS hr
  have hrr := hC.2.2.1
  refine W.widen (k := mc) (n := ms) (by omega) (by omega) ?_
  have h0 : cells = mc := by omega
  exact W.aret hC.1 hC.2.1 (hrr.trans ht) hty (by cases r; exact Or.inl rfl; exact Or.inr ⟨_, rfl⟩) (fun t ht hW => ⟨(some (vP r)), σ, rfl, hQ, by rw [ht]; exact hH, by omega, hS.F ht⟩) hS.2.2 hd hC.2.2.2.2.2.2.1
end RULES
