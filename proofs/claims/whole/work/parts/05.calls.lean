/-! MACHINE LAYER, 4: what is made, calls, copies of arrays -/
theorem mNew_at {X : mX} {g : mG} {R : Room} {p : Program} {lau : Launch} {e : Env} {s : State} {m : MethodId} {args : Array Value} {below : List Frame} {meth : Method} {c : Code} {H1 : Heap} {T : State} {locs : List Loc} {cells slots q : Nat} {σ : mS} {en : va_E} (hE : g.2.2.1 + σ.1.length = s.heap.size + cells) (hP : va_P g.1 vwCl (mW g σ ++ [(q, en)]) H1) (hD : va_D (mA g) (mW g σ ++ [(q, en)])) (hT : T.heap = H1) (Y : Stand p lau e R s m args below meth c T locs (cells + 1) slots) : q = g.2.2.1 + σ.1.length := by
  have hl : (mW g σ).length = σ.1.length := by simp [mW]
  have hlast : (mW g σ ++ [(q, en)])[σ.1.length]? = some (q, en) := by
    rw [List.getElem?_append_right (by omega), hl]; simp
  have h1 := (hP _ _ hlast).lt
  have h2 := Y.heapSize
  rw [hT] at h2
  have h3 : g.2.2.1 ≤ q := hD.2 _ _ hlast
  simp only at h1
  by_cases hq : q < g.2.2.1 + σ.1.length
  · exfalso
    have hk : q - g.2.2.1 < σ.1.length := by omega
    have hg := mW_get (g := g) (σ := σ) (List.getElem?_eq_getElem hk)
    have hg2 : (mW g σ ++ [(q, en)])[q - g.2.2.1]? = some (g.2.2.1 + (q - g.2.2.1), mcell g σ (q - g.2.2.1) σ.1[q - g.2.2.1]) := by
      rw [List.getElem?_append_left (by omega)]; exact hg
    have := hD.1 _ _ _ _ hg2 hlast (by show g.2.2.1 + (q - g.2.2.1) = q; omega)
    omega
  · omega
def mdef (t : Nat) : Value := match t with
  | 1 => .long 0
  | 2 => .null
  | 3 => .null
  | _ => .int 0
theorem mFT_3 {ci j t : Nat} (h : (mFT ci)[j]? = some t) : t = 3 ↔ (ci = 9 ∧ j = 8) := by
  have hl : ∀ c, c < 12 → (mFT c).length ≤ 60 := by decide
  have hd : ∀ c, c < 12 → ∀ i, i < 60 → ((mFT c)[i]? = some 3 → (c = 9 ∧ i = 8)) := by decide
  have hci : ci < 12 := by
    refine Nat.lt_of_not_le (fun q => ?_)
    have e : mFT ci = [] := by
      unfold mFT
      split <;> first | (exfalso; omega) | rfl
    rw [e] at h
    cases h
  have hj : j < 60 := Nat.lt_of_lt_of_le (List.getElem?_eq_some_iff.mp h).1 (hl ci hci)
  constructor
  · rintro rfl
    exact hd ci hci j hj h
  · rintro ⟨rfl, rfl⟩
    cases h
    rfl
theorem mval_new (g : mG) (σ : mS) (kd : Nat × Nat) (k t : Nat) (h : t = 3 ↔ (kd.1 = 9 ∧ k = 8)) : mval g (mNew σ kd) σ.1.length k t = mdef t := by
  have h1 : t = 3 → dI kd k = -1 := fun e => by unfold dI; rw [if_pos (h.1 e).1, if_pos (h.1 e).2]
  have h0 : t ≠ 3 → dI kd k = 0 := fun e => by
    unfold dI
    split
    · rw [if_neg (fun q => e (h.2 ⟨by assumption, q⟩))]
    · rfl
  rcases t with _ | _ | _ | _ | t
  · show Value.int (Int32.ofInt (if σ.1.length = σ.1.length then dI kd k else _)) = .int 0
    rw [if_pos rfl, h0 (by omega)]
    rfl
  · show Value.long (Int64.ofInt (if σ.1.length = σ.1.length then 0 else _)) = .long 0
    rw [if_pos rfl]
    rfl
  · show va_rf ((if σ.1.length = σ.1.length then none else _ : Option Nat).map _) = .null
    rw [if_pos rfl]
    rfl
  · show va_rf ((hB (if σ.1.length = σ.1.length then dI kd k else _)).map _) = .null
    rw [if_pos rfl, h1 rfl]
    rfl
  · show Value.int (Int32.ofInt (if σ.1.length = σ.1.length then dI kd k else _)) = .int 0
    rw [if_pos rfl, h0 (by omega)]
    rfl
section ALLOC
variable {X : mX} {d : Nat} {b B : Nat × Nat} {M : mM} {pc pc' : Nat} {l : List (Nat × mV)} {st : List mV} {σ : mS} {Q : Option mV → mS → Prop}
theorem r_new {ci : Nat} {C : String} {T : u_T} {N idx : Nat} {ty : Nat → FieldType} (hd : decode M.1 pc = .ok (.new idx, 3)) (hp : pc + 3 = pc') (hM : mCls ci C T N ty) (hcl : Cond.classLink M.2.1.cls idx C ∈ mT) (hin : Cond.instantiable C N ∈ mT) (hini : Cond.initialized C ∈ mT) (hdf : ∀ j, j < N → ∀ t, (mFT ci)[j]? = some t → defaultValue (ty j) = mdef t) (hB : B = (b.1 + 1, b.2 + N)) (kk : WP X d b M pc' l (vP (some σ.1.length) :: st) (mNew σ (ci, 0)) Q) : WP X d B M pc l st σ Q := by
  subst hp
  subst hB
  intro g R p lau e s m args below meth c H locs cells slots mc ms real hC h1 h2 hE hH hS hr
  have hR := hC.2.2.2.2.2.2.2.2.2.2.2
  refine va_new (ci := ci) (fs := (mFT ci).mapIdx (fun k t => mval g (mNew σ (ci, 0)) σ.1.length k t)) hC.1 hC.2.1 hC.2.2.2.2.2.2.2.1 hM.2.1 ty hM.2.2.1 hC.2.2.2.2.1 (hC.2.2.2.2.2.2.2.1 _ hcl) (hC.2.2.2.2.2.2.2.1 _ hin) (hC.2.2.2.2.2.2.2.1 _ hini) hC.2.2.2.2.2.2.2.2.1 hH (mD g σ) hS (fun q hq => Nat.le_trans hC.2.2.2.2.2.2.2.2.2.2.1 hq) hM.1 (fun j hj => ?_) (by omega) (by omega) hd (fun q H1 hP1 hD1 hS1 => ?_)
  · have hj2 : j < (mFT ci).length := by rw [hM.2.2.2.2.1]; exact hj
    rw [hdf j hj _ (List.getElem?_eq_getElem hj2)]
    have hmv := mval_new g σ (ci, 0) j _ (mFT_3 (List.getElem?_eq_getElem hj2))
    simp only [vp_V, List.getD_eq_getElem?_getD, List.getElem?_mapIdx, List.getElem?_eq_getElem hj2, Option.map_some, Option.getD_some, hmv]
  · intro T' hT' Y
    have hq := mNew_at (X := X) hE hP1 hD1 hT' Y
    subst hq
    rw [mW_new (mcell_obj hM.2.2.2.2.2)] at hP1
    exact kk g R p lau e s m args below meth c H1 locs (cells + 1) (slots + N) mc ms real hC (by omega) (by omega) (by simp [mNew]; omega) hP1 hS1 hr T' hT' Y
theorem mK_id {g : mG} {s : State} {t : Nat} {cA : ClassId} {ty : FieldType} (hK : va_K g.1 vwCl (mTys g) s) (ht : t < 8) (hty : mty t = ty) (hK1 : va_K g.1 vwCl (mTys g ++ [(cA, ty)]) s) : cA = g.2.1 t := by
  have h1 := (hK1.2 8 (cA, ty) (by rw [List.getElem?_append_right (by simp [mTys])]; simp [mTys])).2
  have h2 := (hK.2 t _ (mTys_at g ht)).2
  rw [hty] at h2
  unfold va_RA at h1 h2
  cases ty <;> simp only at h1 h2
  case object C =>
    obtain ⟨_, _, -, -, -, e1⟩ := h1
    obtain ⟨_, _, -, -, -, e2⟩ := h2
    exact Option.some.inj (e1.symm.trans e2)
  all_goals exact Option.some.inj (h1.symm.trans h2)
theorem r_newaI {z : Int} {n : Nat} (hd : decode M.1 pc = .ok (.newarray .int, 2)) (hp : pc + 2 = pc') (hw : Cond.arrayClass FieldType.int ∈ mT) (hz : z = (n : Int)) (hn : n ≤ 100000) (hB : B = (b.1 + 1, b.2 + n)) (kk : WP X d b M pc' l (vP (some σ.1.length) :: st) (mNew σ (50 + 0, n)) Q) : WP X d B M pc l (vI z :: st) σ Q := by
  subst hp
  subst hB
  subst hz
  intro g R p lau e s m args below meth c H locs cells slots mc ms real hC h1 h2 hE hH hS hr
  have hR := hC.2.2.2.2.2.2.2.2.2.2.2
  refine va_newa (atype := .int) (ty := FieldType.int) (a0 := marr g (mNew σ (50 + 0, n)) σ.1.length 0 n) hC.1 hC.2.1 (hC.2.2.2.2.2.2.2.1 _ hw) rfl hC.2.2.2.2.2.2.2.2.1 hH (mD g σ) hS (fun q hq => Nat.le_trans hC.2.2.2.2.2.2.2.2.2.2.1 hq) (fun cA => ?_) (by rw [iI_0, iI_lt ⟨by omega, by omega⟩ iI_z]; omega) ((iI_clamp (by omega) (by omega)).trans (Int.toNat_natCast n)) (by simp [componentBytes]; omega) (by omega) (by omega) hd (fun q cA H1 hK1 hP1 hD1 hS1 => ?_)
  · rw [marr_lo (t := 0) (by decide)]
    simp only [vp_cell, mNew, if_pos]
    rfl
  · intro T' hT' Y
    have hq := mNew_at (X := X) hE hP1 hD1 hT' Y
    have hc := mK_id (t := 0) hC.2.2.2.2.2.2.2.2.1 (by decide) rfl hK1
    subst hq
    subst hc
    rw [mW_new (mcell_arr (t := 0))] at hP1
    exact kk g R p lau e s m args below meth c H1 locs (cells + 1) (slots + n) mc ms real hC (by omega) (by omega) (by simp [mNew]; omega) hP1 hS1 hr T' hT' Y
theorem r_newaB {z : Int} {n : Nat} (hd : decode M.1 pc = .ok (.newarray .byte, 2)) (hp : pc + 2 = pc') (hw : Cond.arrayClass FieldType.byte ∈ mT) (hz : z = (n : Int)) (hn : n ≤ 100000) (hB : B = (b.1 + 1, b.2 + n)) (kk : WP X d b M pc' l (vP (some σ.1.length) :: st) (mNew σ (50 + 1, n)) Q) : WP X d B M pc l (vI z :: st) σ Q := by
  subst hp
  subst hB
  subst hz
  intro g R p lau e s m args below meth c H locs cells slots mc ms real hC h1 h2 hE hH hS hr
  have hR := hC.2.2.2.2.2.2.2.2.2.2.2
  refine va_newa (atype := .byte) (ty := FieldType.byte) (a0 := marr g (mNew σ (50 + 1, n)) σ.1.length 1 n) hC.1 hC.2.1 (hC.2.2.2.2.2.2.2.1 _ hw) rfl hC.2.2.2.2.2.2.2.2.1 hH (mD g σ) hS (fun q hq => Nat.le_trans hC.2.2.2.2.2.2.2.2.2.2.1 hq) (fun cA => ?_) (by rw [iI_0, iI_lt ⟨by omega, by omega⟩ iI_z]; omega) ((iI_clamp (by omega) (by omega)).trans (Int.toNat_natCast n)) (by simp [componentBytes]; omega) (by omega) (by omega) hd (fun q cA H1 hK1 hP1 hD1 hS1 => ?_)
  · rw [marr_lo (t := 1) (by decide)]
    simp only [vp_cell, mNew, if_pos]
    rfl
  · intro T' hT' Y
    have hq := mNew_at (X := X) hE hP1 hD1 hT' Y
    have hc := mK_id (t := 1) hC.2.2.2.2.2.2.2.2.1 (by decide) rfl hK1
    subst hq
    subst hc
    rw [mW_new (mcell_arr (t := 1))] at hP1
    exact kk g R p lau e s m args below meth c H1 locs (cells + 1) (slots + n) mc ms real hC (by omega) (by omega) (by simp [mNew]; omega) hP1 hS1 hr T' hT' Y
theorem r_newaZ {z : Int} {n : Nat} (hd : decode M.1 pc = .ok (.newarray .boolean, 2)) (hp : pc + 2 = pc') (hw : Cond.arrayClass FieldType.boolean ∈ mT) (hz : z = (n : Int)) (hn : n ≤ 100000) (hB : B = (b.1 + 1, b.2 + n)) (kk : WP X d b M pc' l (vP (some σ.1.length) :: st) (mNew σ (50 + 2, n)) Q) : WP X d B M pc l (vI z :: st) σ Q := by
  subst hp
  subst hB
  subst hz
  intro g R p lau e s m args below meth c H locs cells slots mc ms real hC h1 h2 hE hH hS hr
  have hR := hC.2.2.2.2.2.2.2.2.2.2.2
  refine va_newa (atype := .boolean) (ty := FieldType.boolean) (a0 := marr g (mNew σ (50 + 2, n)) σ.1.length 2 n) hC.1 hC.2.1 (hC.2.2.2.2.2.2.2.1 _ hw) rfl hC.2.2.2.2.2.2.2.2.1 hH (mD g σ) hS (fun q hq => Nat.le_trans hC.2.2.2.2.2.2.2.2.2.2.1 hq) (fun cA => ?_) (by rw [iI_0, iI_lt ⟨by omega, by omega⟩ iI_z]; omega) ((iI_clamp (by omega) (by omega)).trans (Int.toNat_natCast n)) (by simp [componentBytes]; omega) (by omega) (by omega) hd (fun q cA H1 hK1 hP1 hD1 hS1 => ?_)
  · rw [marr_lo (t := 2) (by decide)]
    simp only [vp_cell, mNew, if_pos]
    rfl
  · intro T' hT' Y
    have hq := mNew_at (X := X) hE hP1 hD1 hT' Y
    have hc := mK_id (t := 2) hC.2.2.2.2.2.2.2.2.1 (by decide) rfl hK1
    subst hq
    subst hc
    rw [mW_new (mcell_arr (t := 2))] at hP1
    exact kk g R p lau e s m args below meth c H1 locs (cells + 1) (slots + n) mc ms real hC (by omega) (by omega) (by simp [mNew]; omega) hP1 hS1 hr T' hT' Y
theorem r_newaL {z : Int} {n : Nat} (hd : decode M.1 pc = .ok (.newarray .long, 2)) (hp : pc + 2 = pc') (hw : Cond.arrayClass FieldType.long ∈ mT) (hz : z = (n : Int)) (hn : n ≤ 100000) (hB : B = (b.1 + 1, b.2 + n)) (kk : WP X d b M pc' l (vP (some σ.1.length) :: st) (mNew σ (50 + 3, n)) Q) : WP X d B M pc l (vI z :: st) σ Q := by
  subst hp
  subst hB
  subst hz
  intro g R p lau e s m args below meth c H locs cells slots mc ms real hC h1 h2 hE hH hS hr
  have hR := hC.2.2.2.2.2.2.2.2.2.2.2
  refine va_newa (atype := .long) (ty := FieldType.long) (a0 := marr g (mNew σ (50 + 3, n)) σ.1.length 3 n) hC.1 hC.2.1 (hC.2.2.2.2.2.2.2.1 _ hw) rfl hC.2.2.2.2.2.2.2.2.1 hH (mD g σ) hS (fun q hq => Nat.le_trans hC.2.2.2.2.2.2.2.2.2.2.1 hq) (fun cA => ?_) (by rw [iI_0, iI_lt ⟨by omega, by omega⟩ iI_z]; omega) ((iI_clamp (by omega) (by omega)).trans (Int.toNat_natCast n)) (by simp [componentBytes]; omega) (by omega) (by omega) hd (fun q cA H1 hK1 hP1 hD1 hS1 => ?_)
  · rw [marr_3]
    simp only [vp_cell, mNew, if_pos]
    rfl
  · intro T' hT' Y
    have hq := mNew_at (X := X) hE hP1 hD1 hT' Y
    have hc := mK_id (t := 3) hC.2.2.2.2.2.2.2.2.1 (by decide) rfl hK1
    subst hq
    subst hc
    rw [mW_new (mcell_arr (t := 3))] at hP1
    exact kk g R p lau e s m args below meth c H1 locs (cells + 1) (slots + n) mc ms real hC (by omega) (by omega) (by simp [mNew]; omega) hP1 hS1 hr T' hT' Y
theorem r_anew {t : Nat} {C : String} {idx : Nat} {z : Int} {n : Nat} (hd : decode M.1 pc = .ok (.anewarray idx, 3)) (hp : pc + 3 = pc') (hcl : Cond.classLink M.2.1.cls idx C ∈ mT) (hao : C ∈ mAO) (ht4 : 4 ≤ t) (ht8 : t < 8) (hty : mty t = .object C) (hz : z = (n : Int)) (hn : n ≤ 100000) (hB : B = (b.1 + 1, b.2 + n)) (kk : WP X d b M pc' l (vP (some σ.1.length) :: st) (mNew σ (50 + t, n)) Q) : WP X d B M pc l (vI z :: st) σ Q := by
  subst hp
  subst hB
  subst hz
  intro g R p lau e s m args below meth c H locs cells slots mc ms real hC h1 h2 hE hH hS hr
  have hR := hC.2.2.2.2.2.2.2.2.2.2.2
  refine va_newq (N' := n) hC.1 hC.2.1 hC.2.2.2.2.1 (hC.2.2.2.2.2.2.2.1 _ hcl) (hC.2.2.2.2.2.2.2.2.2.1.2.2.1 _ hao) hC.2.2.2.2.2.2.2.2.1 hH (mD g σ) hS (fun q hq => Nat.le_trans hC.2.2.2.2.2.2.2.2.2.2.1 hq) (by rw [iI_0, iI_lt ⟨by omega, by omega⟩ iI_z]; omega) ((iI_clamp (by omega) (by omega)).trans (Int.toNat_natCast n)) (by omega) (by omega) (by omega) hd (fun q cA H1 hK1 hP1 hD1 hS1 => ?_)
  intro T' hT' Y
  have hq := mNew_at (X := X) hE hP1 hD1 hT' Y
  have hc := mK_id (t := t) hC.2.2.2.2.2.2.2.2.1 ht8 hty hK1
  subst hq
  subst hc
  have he : mcell g (mNew σ (50 + t, n)) σ.1.length (50 + t, n) = .inl (g.2.1 t, n, .inr (.inr (.inr (.inr fun _ => none)))) := by
    rw [mcell_arr, marr_hi ht4]
    simp [mNew]
  rw [mW_new he] at hP1
  exact kk g R p lau e s m args below meth c H1 locs (cells + 1) (slots + n) mc ms real hC (by omega) (by omega) (by simp [mNew]; omega) hP1 hS1 hr T' hT' Y
end ALLOC
/-- what is said once of each method that is called -/
def mNo (M' : mM) (n : Nat) : Prop := M'.2.1.cls ≠ "java/lang/invoke/MethodHandle" ∧ M'.2.1.cls ≠ "java/lang/invoke/VarHandle" ∧ (parseMethodDescriptor M'.2.1.desc).map (fun d => d.parameters.length) = some n
def mMV (M' : mM) (n : Nat) : Prop := (Cond.instanceMethod M'.2.1 ∈ mT ∧ Cond.selects M'.2.1.cls M'.2.1 M'.2.1 ∈ mT) ∧ Cond.initialized M'.2.1.cls ∈ mT ∧ Cond.code M'.2.1 M'.1 M'.2.2.1 M'.2.2.2 ∈ mT ∧ M'.2.2.1 ≤ 41 ∧ mNo M' n
def mMS (M' : mM) (n : Nat) : Prop := (Cond.static M'.2.1 ∈ mT) ∧ Cond.initialized M'.2.1.cls ∈ mT ∧ Cond.code M'.2.1 M'.1 M'.2.2.1 M'.2.2.2 ∈ mT ∧ M'.2.2.1 ≤ 41 ∧ mNo M' n
def mMI (M' : mM) (n : Nat) : Prop := (M'.2.1.name = "<init>" ∧ Cond.instanceMethod M'.2.1 ∈ mT ∧ M'.2.2.2 = none) ∧ Cond.initialized M'.2.1.cls ∈ mT ∧ Cond.code M'.2.1 M'.1 M'.2.2.1 M'.2.2.2 ∈ mT ∧ M'.2.2.1 ≤ 41 ∧ mNo M' n
theorem mPc_blind (X : mX) (g : mG) (As : List mV) (σ : mS) : FrameBlind (mPc X g As σ) := fun a U fr mk q =>
  ⟨q.1, q.2.1, q.2.2.1, va_K.moved (u := U) (U := U.calling fr mk a) (Vm.Alike.refl U.vm) q.2.2.2.1, mRO.step (U := U.calling fr mk a) q.2.2.2.2.1 (State.WarmedH.refl U) (fun _ _ _ => rfl), q.2.2.2.2.2⟩
theorem mPc_at {X : mX} {g : mG} {R : Room} {p : Program} {lau : Launch} {e : Env} {s : State} {m : MethodId} {args : Array Value} {below : List Frame} {meth : Method} {c : Code} {M : mM} {d mc ms : Nat} {H : Heap} {locs : List Loc} {σ : mS} (hC : mIn X g R p lau e s m args below meth c M d mc ms) (hsz : H.size = g.2.2.1 + σ.1.length) (hH : mH g σ H) (hS : va_S (mA g) s.heap H locs) (As : List mV) : ∀ U : State, U.heap = H → s.WarmedH U.vm → mPc X g As σ (As.map (rv g)).toArray U := fun U hU hW =>
  ⟨rfl, by rw [hU]; exact hH, by rw [hU, hsz], va_K.moved hW.alike hC.2.2.2.2.2.2.2.2.1, mRO.step hC.2.2.2.2.2.2.2.2.2.1 hW (fun q h1 h2 => by rw [hU]; exact hS.2.1 q h1 h2), by rw [hU, hsz]; omega⟩
/-- behind any call -/
theorem mBack {X : mX} {g : mG} {R : Room} {p : Program} {lau : Launch} {e : Env} {s : State} {m : MethodId} {args : Array Value} {below : List Frame} {meth : Method} {c : Code} {M : mM} {d mc ms pc : Nat} {b b' B : Nat × Nat} {H : Heap} {T : State} {locs : List Loc} {cells slots : Nat} {σ : mS} {l : List (Nat × mV)} {st0 : List Value} {rest : List mV} {real : Array Slot} {Q : Option mV → mS → Prop} {a : Array Value}
    (hB : B.1 = b.1 + b'.1 ∧ B.2 = b.2 + b'.2) (hC : mIn X g R p lau e s m args below meth c M d mc ms) (h1 : cells + B.1 = mc) (h2 : slots + B.2 ≤ ms) (hsz : H.size = g.2.2.1 + σ.1.length) (hE : g.2.2.1 + σ.1.length = s.heap.size + cells) (hS : va_S (mA g) s.heap H locs) (hr : lv_has real M.2.2.1 (mL g l)) (hT : T.heap = H) (Y : Stand p lau e R s m args below meth c T locs cells slots)
    (run : va_Run p lau e R s m args below meth c H locs cells slots b'.1 b'.2 (F0 m pc real st0) (rest.map (rv g)) (mQ g b'.1 (fun v σ' => WP X d b M (pc + 3) l (v.toList ++ rest) σ' Q) a) (mA g)) :
    ∃ t, Steps p.tables e below (T.setTop (F0 m pc real st0)) t ∧ MQ below (mQ g mc Q) args s mc ms (mA g) t := by
  obtain ⟨v, st₀, t, T', L, q1, Y', q3, q4, q5, ⟨v', σ', q6, q7, q8, q9, q10⟩, stp⟩ := run T hT Y
  have hv : v = v'.map (rv g) := Outcome.returned.inj q6
  subst hv
  rw [q1] at q9
  have hz := q10.1
  have hk := q10.2
  rw [q1] at hz hk
  obtain ⟨t2, a1, b1⟩ := q7 g R p lau e s m args below meth c T'.heap (locs ++ L) (cells + b'.1) (slots + b'.2) mc ms real hC (by omega) (by omega) (by omega) (by rw [q4]; exact q8)
    ⟨Nat.le_trans hS.1 (by rw [q4]; exact hz), fun q w1 w2 => by rw [q4, hk q (Nat.lt_of_lt_of_le w1 hS.1) w2]; exact hS.2.1 q w1 w2, fun q hq => by
      rcases List.mem_append.mp hq with h | h
      · exact hS.2.2 q h
      · exact q3 q h⟩ hr T' rfl Y'
  refine ⟨t2, stp t2 ?_, b1⟩
  have e : ((v'.toList ++ rest).map (rv g)) = (v'.map (rv g)).toList ++ rest.map (rv g) := by cases v' <;> simp
  rw [e] at a1
  exact a1
section CALLS
variable {X : mX} {d : Nat} {b b' B : Nat × Nat} {M M' : mM} {pc pc' : Nat} {l : List (Nat × mV)} {st rest As : List mV} {σ : mS} {Q : Option mV → mS → Prop}
theorem mGood_V {own : String} {idx n : Nat} (hw : Cond.methodLink own idx M'.2.1 ∈ mT) (hm : mMV M' n) : GoodIn mT (wsV own idx M'.2.1.cls M'.2.1 (Cond.code M'.2.1 M'.1 M'.2.2.1 M'.2.2.2 :: mT)) := by
  have hg : ∀ w ∈ mT, w ∈ mT ∧ ((w.onTables && w.keeps) = true ∨ ∃ ty, w = .arrayClass ty) := fun w hw => ⟨hw, good_of_word (List.mem_filter.mp hw).2⟩
  intro w h
  simp only [wsV, List.mem_append, List.mem_cons, List.not_mem_nil, or_false] at h
  rcases h with (rfl | rfl | rfl | rfl) | rfl | h
  · exact hg _ hw
  · exact hg _ hm.1.1
  · exact hg _ hm.1.2
  · exact hg _ hm.2.1
  · exact hg _ hm.2.2.1
  · exact hg _ h
theorem mGood_S {own : String} {idx n : Nat} (hw : Cond.methodLink own idx M'.2.1 ∈ mT) (hm : mMS M' n) : GoodIn mT (va_wsS own idx M'.2.1 (Cond.code M'.2.1 M'.1 M'.2.2.1 M'.2.2.2 :: mT)) := by
  have hg : ∀ w ∈ mT, w ∈ mT ∧ ((w.onTables && w.keeps) = true ∨ ∃ ty, w = .arrayClass ty) := fun w hw => ⟨hw, good_of_word (List.mem_filter.mp hw).2⟩
  intro w h
  simp only [va_wsS, List.mem_append, List.mem_cons, List.not_mem_nil, or_false] at h
  rcases h with (rfl | rfl | rfl) | rfl | h
  · exact hg _ hw
  · exact hg _ hm.1
  · exact hg _ hm.2.1
  · exact hg _ hm.2.2.1
  · exact hg _ h
theorem r_callV {rr : Option Nat} {ci a : Nat} {C : String} {T : u_T} {N : Nat} {ty : Nat → FieldType} {idx n : Nat} (hd : decode M.1 pc = .ok (.invokevirtual idx, 3)) (hp : pc + 3 = pc') (hst : st = As.reverse ++ vP rr :: rest) (er : rr = some a) (hw : Cond.methodLink M.2.1.cls idx M'.2.1 ∈ mT) (hm : mMV M' n) (hn : As.length = n) (hM : mCls ci C T N ty) (hcls : M'.2.1.cls = C) (ha : σ.1[a]? = some (ci, 0)) (hrest : (rest.map mC).sum ≤ 8) (hB : B.1 = b.1 + b'.1 ∧ B.2 = b.2 + b'.2) (hcall : CALL X d b' M' (vP (some a) :: As) σ (fun v σ' => WP X (d + 1) b M pc' l (v.toList ++ rest) σ' Q)) : WP X (d + 1) B M pc l st σ Q := by
  subst hp
  (try subst er)
  subst hst
  intro g R p lau e s m args below meth c H locs cells slots mc ms real hC h1 h2 hE hH hS hr
  have hR := hC.2.2.2.2.2.2.2.2.2.2.2
  intro T hT Y
  have hsz := mSz hC hE hH hS hT Y
  exact mBack hB hC h1 h2 hsz hE hS hr hT Y (va_runV (As := As.map (rv g)) (rest := rest.map (rv g)) ⟨hC.1, hC.2.1, hC.2.2.2.1, hC.2.2.2.2.1, hC.2.2.2.2.2.2.2.1⟩ (hcall g lau) (cwV n hC.2.2.2.2.2.2.2.1 (hcls ▸ mGood_V hw hm) rfl rfl rfl ⟨hcls, hm.2.2.2.2.1, hm.2.2.2.2.2.1, hm.2.2.2.2.2.2⟩ ⟨by show d + 1 ≤ R.frames; omega, by show 8 + (M'.2.2.1 + 11) + 60 * d ≤ R.locals; have := hm.2.2.2.1; omega⟩) ⟨mPc_blind _ _ _ _, va_recv hC.2.2.2.2.2.2.2.2.1 hH hM.1 (mA_obj ha hM.2.2.2.2.2), fun U hU hW => mPc_at hC hsz hH hS _ U hU hW⟩ rfl (by rw [List.length_map]; exact hn) hr.1 (by show List.map _ _ = _; simp only [List.map_append, List.map_reverse, List.map_cons]; rfl) (lv_room (by rw [rest_cat]; exact hrest)) hd ⟨by omega, by omega⟩)
theorem r_callVN {host : String} {rr : Option Nat} {ci a : Nat} {C : String} {T : u_T} {N : Nat} {ty : Nat → FieldType} {idx n : Nat} (hd : decode M.1 pc = .ok (.invokevirtual idx, 3)) (hp : pc + 3 = pc') (hst : st = As.reverse ++ vP rr :: rest) (er : rr = some a) (hw : (M.2.1.cls, idx, M'.2.1, host) ∈ mNM) (hm : mMV M' n) (hn : As.length = n) (hM : mCls ci C T N ty) (hcls : M'.2.1.cls = C) (ha : σ.1[a]? = some (ci, 0)) (hrest : (rest.map mC).sum ≤ 8) (hB : B.1 = b.1 + b'.1 ∧ B.2 = b.2 + b'.2) (hcall : CALL X d b' M' (vP (some a) :: As) σ (fun v σ' => WP X (d + 1) b M pc' l (v.toList ++ rest) σ' Q)) : WP X (d + 1) B M pc l st σ Q := by
  subst hp
  (try subst er)
  subst hst
  intro g R p lau e s m args below meth c H locs cells slots mc ms real hC h1 h2 hE hH hS hr
  have hR := hC.2.2.2.2.2.2.2.2.2.2.2
  intro T hT Y
  have hsz := mSz hC hE hH hS hT Y
  exact mBack hB hC h1 h2 hsz hE hS hr hT Y (va_runVN (As := As.map (rv g)) (rest := rest.map (rv g)) ⟨hC.1, hC.2.1, hC.2.2.2.1, hC.2.2.2.2.1, hC.2.2.2.2.2.2.2.1⟩ (hcall g lau) ⟨va_cnB n hC.2.2.2.2.2.2.2.1 (mT_good hm.2.2.1) rfl rfl rfl (hC.2.2.2.2.2.2.2.2.2.1.2.1 _ hw) (hC.2.2.2.2.2.2.2.1 _ hm.2.1) ⟨hm.2.2.2.2.1, hm.2.2.2.2.2.1, hm.2.2.2.2.2.2⟩ ⟨by show d + 1 ≤ R.frames; omega, by show 8 + (M'.2.2.1 + 11) + 60 * d ≤ R.locals; have := hm.2.2.2.1; omega⟩, hC.2.2.2.2.2.2.2.1 _ hm.1.1, hcls ▸ (hC.2.2.2.2.2.2.2.1 _ hm.1.2)⟩ ⟨mPc_blind _ _ _ _, va_recv hC.2.2.2.2.2.2.2.2.1 hH hM.1 (mA_obj ha hM.2.2.2.2.2), fun U hU hW => mPc_at hC hsz hH hS _ U hU hW⟩ rfl (by rw [List.length_map]; exact hn) hr.1 (by show List.map _ _ = _; simp only [List.map_append, List.map_reverse, List.map_cons]; rfl) (lv_room (by rw [rest_cat]; exact hrest)) hd ⟨by omega, by omega⟩)
theorem r_callO {k : Nat} {idx n : Nat} (hd : decode M.1 pc = .ok (.invokevirtual idx, 3)) (hp : pc + 3 = pc') (hst : st = As.reverse ++ vO k :: rest) (hw : Cond.methodLink M.2.1.cls idx M'.2.1 ∈ mT) (hm : mMV M' n) (hn : As.length = n) (hk1 : 1 ≤ k) (hk6 : k ≤ 6) (hcls : M'.2.1.cls = "java/lang/String") (hrest : (rest.map mC).sum ≤ 8) (hB : B.1 = b.1 + b'.1 ∧ B.2 = b.2 + b'.2) (hcall : CALL X d b' M' (vO k :: As) σ (fun v σ' => WP X (d + 1) b M pc' l (v.toList ++ rest) σ' Q)) : WP X (d + 1) B M pc l st σ Q := by
  subst hp
  (try subst er)
  subst hst
  intro g R p lau e s m args below meth c H locs cells slots mc ms real hC h1 h2 hE hH hS hr
  have hR := hC.2.2.2.2.2.2.2.2.2.2.2
  intro T hT Y
  have hsz := mSz hC hE hH hS hT Y
  obtain ⟨oa, e1, e2, -⟩ := hC.2.2.2.2.2.2.2.2.2.1.2.2.2.2.2.2.2.1 k hk1 hk6
  have hrv : rv g (vO k) = .ref oa := by simp only [rv]; rw [e1]; rfl
  exact mBack hB hC h1 h2 hsz hE hS hr hT Y (va_runV (As := As.map (rv g)) (rest := rest.map (rv g)) ⟨hC.1, hC.2.1, hC.2.2.2.1, hC.2.2.2.2.1, hC.2.2.2.2.2.2.2.1⟩ (hcall g lau) (cwV n hC.2.2.2.2.2.2.2.1 (hcls ▸ mGood_V hw hm) rfl rfl rfl ⟨hcls, hm.2.2.2.2.1, hm.2.2.2.2.2.1, hm.2.2.2.2.2.2⟩ ⟨by show d + 1 ≤ R.frames; omega, by show 8 + (M'.2.2.1 + 11) + 60 * d ≤ R.locals; have := hm.2.2.2.1; omega⟩) ⟨mPc_blind _ _ _ _, (by obtain ⟨cell, w1, w2, w3, w4⟩ := e2; exact ⟨cell, by rw [hS.2.1 oa (Array.getElem?_eq_some_iff.mp w1).1 w4]; exact w1, w2, w3⟩), fun U hU hW => by have := mPc_at hC hsz hH hS (vO k :: As) U hU hW; rw [List.map_cons, hrv] at this; exact this⟩ rfl (by rw [List.length_map]; exact hn) hr.1 (by show List.map _ _ = _; simp only [List.map_append, List.map_reverse, List.map_cons]; rw [hrv]) (lv_room (by rw [rest_cat]; exact hrest)) hd ⟨by omega, by omega⟩)
theorem r_callS {idx n : Nat} (hd : decode M.1 pc = .ok (.invokestatic idx, 3)) (hp : pc + 3 = pc') (hst : st = As.reverse ++ rest) (hw : Cond.methodLink M.2.1.cls idx M'.2.1 ∈ mT) (hm : mMS M' n) (hn : As.length = n) (hrest : (rest.map mC).sum ≤ 8) (hB : B.1 = b.1 + b'.1 ∧ B.2 = b.2 + b'.2) (hcall : CALL X d b' M' (As) σ (fun v σ' => WP X (d + 1) b M pc' l (v.toList ++ rest) σ' Q)) : WP X (d + 1) B M pc l st σ Q := by
  subst hp
  (try subst er)
  subst hst
  intro g R p lau e s m args below meth c H locs cells slots mc ms real hC h1 h2 hE hH hS hr
  have hR := hC.2.2.2.2.2.2.2.2.2.2.2
  intro T hT Y
  have hsz := mSz hC hE hH hS hT Y
  exact mBack hB hC h1 h2 hsz hE hS hr hT Y (va_runS (As := As.map (rv g)) (rest := rest.map (rv g)) ⟨hC.1, hC.2.1, hC.2.2.2.1, hC.2.2.2.2.1, hC.2.2.2.2.2.2.2.1⟩ (hcall g lau) (va_cwS n hC.2.2.2.2.2.2.2.1 (mGood_S hw hm) rfl rfl rfl ⟨hm.2.2.2.2.1, hm.2.2.2.2.2.1, hm.2.2.2.2.2.2⟩ ⟨by show d + 1 ≤ R.frames; omega, by show 8 + (M'.2.2.1 + 11) + 60 * d ≤ R.locals; have := hm.2.2.2.1; omega⟩) ⟨mPc_blind _ _ _ _, fun U hU hW => mPc_at hC hsz hH hS _ U hU hW⟩ rfl (by rw [List.length_map]; exact hn) hr.1 (by show List.map _ _ = _; simp only [List.map_append, List.map_reverse]) (lv_room (by rw [rest_cat]; exact hrest)) hd ⟨by omega, by omega⟩)
theorem r_callSN {host : String} {idx n : Nat} (hd : decode M.1 pc = .ok (.invokestatic idx, 3)) (hp : pc + 3 = pc') (hst : st = As.reverse ++ rest) (hw : (M.2.1.cls, idx, M'.2.1, host) ∈ mNM) (hm : mMS M' n) (hn : As.length = n) (hrest : (rest.map mC).sum ≤ 8) (hB : B.1 = b.1 + b'.1 ∧ B.2 = b.2 + b'.2) (hcall : CALL X d b' M' (As) σ (fun v σ' => WP X (d + 1) b M pc' l (v.toList ++ rest) σ' Q)) : WP X (d + 1) B M pc l st σ Q := by
  subst hp
  (try subst er)
  subst hst
  intro g R p lau e s m args below meth c H locs cells slots mc ms real hC h1 h2 hE hH hS hr
  have hR := hC.2.2.2.2.2.2.2.2.2.2.2
  intro T hT Y
  have hsz := mSz hC hE hH hS hT Y
  exact mBack hB hC h1 h2 hsz hE hS hr hT Y (va_runSN (As := As.map (rv g)) (rest := rest.map (rv g)) ⟨hC.1, hC.2.1, hC.2.2.2.1, hC.2.2.2.2.1, hC.2.2.2.2.2.2.2.1⟩ (hcall g lau) ⟨va_cnB n hC.2.2.2.2.2.2.2.1 (mT_good hm.2.2.1) rfl rfl rfl (hC.2.2.2.2.2.2.2.2.2.1.2.1 _ hw) (hC.2.2.2.2.2.2.2.1 _ hm.2.1) ⟨hm.2.2.2.2.1, hm.2.2.2.2.2.1, hm.2.2.2.2.2.2⟩ ⟨by show d + 1 ≤ R.frames; omega, by show 8 + (M'.2.2.1 + 11) + 60 * d ≤ R.locals; have := hm.2.2.2.1; omega⟩, hC.2.2.2.2.2.2.2.1 _ hm.1, trivial⟩ ⟨mPc_blind _ _ _ _, fun U hU hW => mPc_at hC hsz hH hS _ U hU hW⟩ rfl (by rw [List.length_map]; exact hn) hr.1 (by show List.map _ _ = _; simp only [List.map_append, List.map_reverse]) (lv_room (by rw [rest_cat]; exact hrest)) hd ⟨by omega, by omega⟩)
theorem r_callI {rr : Option Nat} {a : Nat} {idx n : Nat} (hd : decode M.1 pc = .ok (.invokespecial idx, 3)) (hp : pc + 3 = pc') (hst : st = As.reverse ++ vP rr :: rest) (er : rr = some a) (hw : Cond.methodLink M.2.1.cls idx M'.2.1 ∈ mT) (hm : mMI M' n) (hn : As.length = n) (hrest : (rest.map mC).sum ≤ 8) (hB : B.1 = b.1 + b'.1 ∧ B.2 = b.2 + b'.2) (hcall : CALL X d b' M' (vP (some a) :: As) σ (fun v σ' => WP X (d + 1) b M pc' l (v.toList ++ rest) σ' Q)) : WP X (d + 1) B M pc l st σ Q := by
  subst hp
  (try subst er)
  subst hst
  intro g R p lau e s m args below meth c H locs cells slots mc ms real hC h1 h2 hE hH hS hr
  have hR := hC.2.2.2.2.2.2.2.2.2.2.2
  intro T hT Y
  have hsz := mSz hC hE hH hS hT Y
  have hcall2 : ∀ (g : mG) (lau : Launch), Met lau M'.2.1 (Cond.code M'.2.1 M'.1 M'.2.2.1 none :: mT) (mR d b') (mPc X g (vP (some a) :: As) σ) (mQ g b'.1 (fun v σ' => WP X (d + 1) b M (pc + 3) l (v.toList ++ rest) σ' Q)) b'.1 b'.2 (mA g) := by
    have h := hcall
    unfold CALL at h
    rw [hm.1.2.2] at h
    exact h
  have hco : Cond.code M'.2.1 M'.1 M'.2.2.1 none ∈ mT := by have h := hm.2.2.1; rw [hm.1.2.2] at h; exact h
  exact mBack hB hC h1 h2 hsz hE hS hr hT Y (va_runI (As := As.map (rv g)) (rest := rest.map (rv g)) ⟨hC.1, hC.2.1, hC.2.2.2.1, hC.2.2.2.2.1, hC.2.2.2.2.2.2.2.1⟩ (hcall2 g lau) (cwI n hC.2.2.2.2.2.2.2.1 (mT_good hco) rfl rfl rfl (hC.2.2.2.2.2.2.2.1 _ hm.2.1) (hC.2.2.2.2.2.2.2.1 _ hw) (hC.2.2.2.2.2.2.2.1 _ hm.1.2.1) hm.1.1 ⟨hm.2.2.2.2.1, hm.2.2.2.2.2.1, hm.2.2.2.2.2.2⟩ ⟨by show d + 1 ≤ R.frames; omega, by show 8 + (M'.2.2.1 + 11) + 60 * d ≤ R.locals; have := hm.2.2.2.1; omega⟩) ⟨mPc_blind _ _ _ _, fun U hU hW => mPc_at hC hsz hH hS _ U hU hW⟩ rfl (by rw [List.length_map]; exact hn) hr.1 (by show List.map _ _ = _; simp only [List.map_append, List.map_reverse, List.map_cons]; rfl) (lv_room (by rw [rest_cat]; exact hrest)) hd ⟨by omega, by omega⟩)
theorem r_callIN {host : String} {rr : Option Nat} {a : Nat} {idx n : Nat} (hd : decode M.1 pc = .ok (.invokespecial idx, 3)) (hp : pc + 3 = pc') (hst : st = As.reverse ++ vP rr :: rest) (er : rr = some a) (hw : (M.2.1.cls, idx, M'.2.1, host) ∈ mNM) (hm : mMI M' n) (hn : As.length = n) (hrest : (rest.map mC).sum ≤ 8) (hB : B.1 = b.1 + b'.1 ∧ B.2 = b.2 + b'.2) (hcall : CALL X d b' M' (vP (some a) :: As) σ (fun v σ' => WP X (d + 1) b M pc' l (v.toList ++ rest) σ' Q)) : WP X (d + 1) B M pc l st σ Q := by
  subst hp
  (try subst er)
  subst hst
  intro g R p lau e s m args below meth c H locs cells slots mc ms real hC h1 h2 hE hH hS hr
  have hR := hC.2.2.2.2.2.2.2.2.2.2.2
  intro T hT Y
  have hsz := mSz hC hE hH hS hT Y
  have hcall2 : ∀ (g : mG) (lau : Launch), Met lau M'.2.1 (Cond.code M'.2.1 M'.1 M'.2.2.1 none :: mT) (mR d b') (mPc X g (vP (some a) :: As) σ) (mQ g b'.1 (fun v σ' => WP X (d + 1) b M (pc + 3) l (v.toList ++ rest) σ' Q)) b'.1 b'.2 (mA g) := by
    have h := hcall
    unfold CALL at h
    rw [hm.1.2.2] at h
    exact h
  have hco : Cond.code M'.2.1 M'.1 M'.2.2.1 none ∈ mT := by have h := hm.2.2.1; rw [hm.1.2.2] at h; exact h
  exact mBack hB hC h1 h2 hsz hE hS hr hT Y (va_runIN (As := As.map (rv g)) (rest := rest.map (rv g)) ⟨hC.1, hC.2.1, hC.2.2.2.1, hC.2.2.2.2.1, hC.2.2.2.2.2.2.2.1⟩ (hcall2 g lau) ⟨va_cnB n hC.2.2.2.2.2.2.2.1 (mT_good hco) rfl rfl rfl (hC.2.2.2.2.2.2.2.2.2.1.2.1 _ hw) (hC.2.2.2.2.2.2.2.1 _ hm.2.1) ⟨hm.2.2.2.2.1, hm.2.2.2.2.2.1, hm.2.2.2.2.2.2⟩ ⟨by show d + 1 ≤ R.frames; omega, by show 8 + (M'.2.2.1 + 11) + 60 * d ≤ R.locals; have := hm.2.2.2.1; omega⟩, hm.1.1, hC.2.2.2.2.2.2.2.1 _ hm.1.2.1⟩ ⟨mPc_blind _ _ _ _, fun U hU hW => mPc_at hC hsz hH hS _ U hU hW⟩ rfl (by rw [List.length_map]; exact hn) hr.1 (by show List.map _ _ = _; simp only [List.map_append, List.map_reverse, List.map_cons]; rfl) (lv_room (by rw [rest_cat]; exact hrest)) hd ⟨by omega, by omega⟩)
end CALLS
