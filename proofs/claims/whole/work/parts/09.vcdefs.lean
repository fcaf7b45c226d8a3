/-! words that the printed VCs use -/
def bB (c : Bool) : Int := if c then 1 else 0
theorem bB_r {c : Bool} : -2147483648 ≤ bB c ∧ bB c ≤ 2147483647 := by cases c <;> decide
theorem bB_0 {c : Bool} (h : bB c = 0) : c = false := by cases c <;> first | rfl | cases h
theorem bB_1 {c : Bool} (h : ¬ bB c = 0) : c = true := by cases c <;> first | rfl | exact absurd rfl h
theorem bB_z {c : Bool} : bB c = 0 ∨ bB c = 1 := by cases c <;> decide
def aOK (σ : mS) (t a : Nat) (i : Int) : Prop := ∃ n : Nat, σ.1[a]? = some (50 + t, n) ∧ 0 ≤ i ∧ i < (n : Int) ∧ n ≤ 2147483647
theorem aUse {σ : mS} {t a : Nat} {i : Int} {P : Prop} (h : aOK σ t a i) (k : ∀ n : Nat, σ.1[a]? = some (50 + t, n) → 0 ≤ i → i < (n : Int) → n ≤ 2147483647 → P) : P := by
  obtain ⟨n, h1, h2, h3, h4⟩ := h
  exact k n h1 h2 h3 h4
def cOK (σ : mS) (t a0 a1 : Nat) (sp dp n : Int) : Prop := ∃ n0 n1 : Nat, σ.1[a0]? = some (t, n0) ∧ σ.1[a1]? = some (t, n1) ∧ 0 ≤ sp ∧ 0 ≤ dp ∧ 0 ≤ n ∧ sp + n ≤ n0 ∧ dp + n ≤ n1 ∧ n0 ≤ 2147483647 ∧ n1 ≤ 2147483647
theorem cUse {σ : mS} {t a0 a1 : Nat} {sp dp n : Int} {P : Prop} (h : cOK σ t a0 a1 sp dp n) (k : ∀ n0 n1 : Nat, σ.1[a0]? = some (t, n0) → σ.1[a1]? = some (t, n1) → 0 ≤ sp → 0 ≤ dp → 0 ≤ n → sp + n ≤ n0 → dp + n ≤ n1 → n0 ≤ 2147483647 → n1 ≤ 2147483647 → P) : P := by
  obtain ⟨n0, n1, h1, h2, h3, h4, h5, h6, h7, h8, h9⟩ := h
  exact k n0 n1 h1 h2 h3 h4 h5 h6 h7 h8 h9
theorem WP.ref2 {X : mX} {d : Nat} {b : Nat × Nat} {M : mM} {pc : Nat} {l l' : List (Nat × mV)} {st st' : List mV} {σ : mS} {Q : Option mV → mS → Prop} (h1 : l = l') (h2 : st = st') (k : WP X d b M pc l' st' σ Q) : WP X d b M pc l st σ Q := by
  subst h1; subst h2; exact k
def tabA : List Int := [-1, 0, 0, 0, 1, 2, 3]
def tabB : List Int := [10, 11, 12, 0, 20, 0, 30, 0, 0, 0, 0, 40, 50, 51, 0, 0, 0, 60, 71, 70, 0]
theorem tabA_in : (7, FieldType.int, tabA) ∈ mTB := List.mem_of_getElem? (i := 0) rfl
theorem tabB_in : (8, FieldType.int, tabB) ∈ mTB := List.mem_of_getElem? (i := 1) rfl
theorem strB_len (k : Nat) : (strB k).length ≤ 2147483647 := by unfold strB; split <;> decide
theorem nar_C {z : Int} (h : 0 ≤ z ∧ z ≤ 65535) : narrow .char (.int (Int32.ofInt z)) = .int (Int32.ofInt z) := by
  obtain ⟨k, rfl⟩ : ∃ k : Nat, z = k := ⟨z.toNat, by omega⟩
  exact (pk_charN (q := k) (by omega)).1
theorem nar_B {z : Int} (h : -128 ≤ z ∧ z ≤ 127) : narrow .byte (.int (Int32.ofInt z)) = .int (Int32.ofInt z) := by
  have := nar_b h
  rw [narrow_byte]
  rw [vp_nar_byte] at this
  rw [this]
theorem nt_w : Cond.native arraycopyName ∈ mT := mT_in 867 (by decide +kernel) rfl
theorem st_w : Cond.static arraycopyName ∈ mT := mT_in 866 (by decide +kernel) rfl
theorem sy_w : Cond.initialized "java/lang/System" ∈ mT := mT_in 145 (by decide +kernel) rfl
theorem WP.st {X : mX} {d : Nat} {b : Nat × Nat} {M : mM} {pc : Nat} {l : List (Nat × mV)} {st : List mV} (st' : List mV) {σ : mS} {Q : Option mV → mS → Prop} (h : st = st') (k : WP X d b M pc l st' σ Q) : WP X d b M pc l st σ Q := h ▸ k
section MATH
variable {X : mX} {d : Nat} {b : Nat × Nat} {M : mM} {pc pc' : Nat} {l : List (Nat × mV)} {st : List mV} {σ : mS} {Q : Option mV → mS → Prop}
theorem mmax_w : Cond.static Lib.Math.max.name ∈ mT ∧ Cond.initialized "java/lang/Math" ∈ mT ∧ Cond.code Lib.Math.max.name Lib.Math.max.code 2 (some .int) ∈ mT := ⟨mT_in 174 (by decide +kernel) rfl, mT_in 128 (by decide +kernel) rfl, mT_in 175 rfl rfl⟩
theorem mmin_w : Cond.static Lib.Math.min.name ∈ mT ∧ Cond.initialized "java/lang/Math" ∈ mT ∧ Cond.code Lib.Math.min.name Lib.Math.min.code 2 (some .int) ∈ mT := ⟨mT_in 171 (by decide +kernel) rfl, mT_in 128 (by decide +kernel) rfl, mT_in 172 rfl rfl⟩
theorem r_mmax {idx : Nat} {x y : Int} (hd : decode M.1 pc = .ok (.invokestatic idx, 3)) (hp : pc + 3 = pc') (hw : Cond.methodLink M.2.1.cls idx Lib.Math.max.name ∈ mT) (hx : -2147483648 ≤ x ∧ x ≤ 2147483647) (hy : -2147483648 ≤ y ∧ y ≤ 2147483647) (hrest : (st.map mC).sum ≤ 8) (kk : WP X (d + 1) b M pc' l (vI (max x y) :: st) σ Q) : WP X (d + 1) b M pc l (vI y :: vI x :: st) σ Q := by
  subst hp
  intro g R p lau e s m args below meth c H locs cells slots mc ms real hC h1 h2 hE hH hS hr
  have hR := hC.2.2.2.2.2.2.2.2.2.2.2
  have hk := kk g R p lau e s m args below meth c H locs cells slots mc ms real hC h1 h2 hE hH hS hr
  refine va_mmax hC.1 hC.2.1 (hC.2.2.2.1.trans hr.1.symm) hC.2.2.2.2.1 (hC.2.2.2.2.2.2.2.1 _ hw) (hC.2.2.2.2.2.2.2.1 _ mmax_w.1) (hC.2.2.2.2.2.2.2.1 _ mmax_w.2.1) (hC.2.2.2.2.2.2.2.1 _ mmax_w.2.2) (by omega) (by rw [rest_cat]; omega) (by omega) (by omega) hd ?_
  have he : (if Int32.ofInt x < Int32.ofInt y then Int32.ofInt y else Int32.ofInt x) = Int32.ofInt (max x y) := by
    simp only [iI_lt hx hy]
    split
    · rw [Int.max_eq_right (by omega)]
    · rw [Int.max_eq_left (by omega)]
  simp only [List.map_cons, rv] at hk
  rw [he]
  exact hk
theorem r_mmin {idx : Nat} {x y : Int} (hd : decode M.1 pc = .ok (.invokestatic idx, 3)) (hp : pc + 3 = pc') (hw : Cond.methodLink M.2.1.cls idx Lib.Math.min.name ∈ mT) (hx : -2147483648 ≤ x ∧ x ≤ 2147483647) (hy : -2147483648 ≤ y ∧ y ≤ 2147483647) (hrest : (st.map mC).sum ≤ 8) (kk : WP X (d + 1) b M pc' l (vI (min x y) :: st) σ Q) : WP X (d + 1) b M pc l (vI y :: vI x :: st) σ Q := by
  subst hp
  intro g R p lau e s m args below meth c H locs cells slots mc ms real hC h1 h2 hE hH hS hr
  have hR := hC.2.2.2.2.2.2.2.2.2.2.2
  have hk := kk g R p lau e s m args below meth c H locs cells slots mc ms real hC h1 h2 hE hH hS hr
  refine va_mmin hC.1 hC.2.1 (hC.2.2.2.1.trans hr.1.symm) hC.2.2.2.2.1 (hC.2.2.2.2.2.2.2.1 _ hw) (hC.2.2.2.2.2.2.2.1 _ mmin_w.1) (hC.2.2.2.2.2.2.2.1 _ mmin_w.2.1) (hC.2.2.2.2.2.2.2.1 _ mmin_w.2.2) (by omega) (by rw [rest_cat]; omega) (by omega) (by omega) hd ?_
  have he : (if Int32.ofInt y < Int32.ofInt x then Int32.ofInt y else Int32.ofInt x) = Int32.ofInt (min x y) := by
    simp only [iI_lt hy hx]
    split
    · rw [Int.min_eq_right (by omega)]
    · rw [Int.min_eq_left (by omega)]
  simp only [List.map_cons, rv] at hk
  first | (rw [he]; exact hk) | (rw [← he] at hk; exact hk)
end MATH
section NEWL
variable {X : mX} {d : Nat} {b B : Nat × Nat} {M : mM} {pc pc' k : Nat} {l : List (Nat × mV)} {st : List mV} {σ : mS} {Q : Option mV → mS → Prop}
theorem r_newO (hlen : σ.1.length = k) {ci : Nat} {C : String} {T : u_T} {N idx : Nat} {ty : Nat → FieldType} (hd : decode M.1 pc = .ok (.new idx, 3)) (hp : pc + 3 = pc') (hM : mCls ci C T N ty) (hcl : Cond.classLink M.2.1.cls idx C ∈ mT) (hin : Cond.instantiable C N ∈ mT) (hini : Cond.initialized C ∈ mT) (hdf : ∀ j, j < N → ∀ t, (mFT ci)[j]? = some t → defaultValue (ty j) = mdef t) (hB : B = (b.1 + 1, b.2 + N)) (kk : WP X d b M pc' l (vP (some k) :: st) (mNew σ (ci, 0)) Q) : WP X d B M pc l st σ Q := by
  subst hlen
  exact r_new hd hp hM hcl hin hini hdf hB kk
theorem r_newaIL (hlen : σ.1.length = k) {z : Int} {n : Nat} (hd : decode M.1 pc = .ok (.newarray .int, 2)) (hp : pc + 2 = pc') (hw : Cond.arrayClass FieldType.int ∈ mT) (hz : z = (n : Int)) (hn : n ≤ 100000) (hB : B = (b.1 + 1, b.2 + n)) (kk : WP X d b M pc' l (vP (some k) :: st) (mNew σ (50, n)) Q) : WP X d B M pc l (vI z :: st) σ Q := by
  subst hlen
  exact r_newaI hd hp hw hz hn hB kk
theorem r_newaBL (hlen : σ.1.length = k) {z : Int} {n : Nat} (hd : decode M.1 pc = .ok (.newarray .byte, 2)) (hp : pc + 2 = pc') (hw : Cond.arrayClass FieldType.byte ∈ mT) (hz : z = (n : Int)) (hn : n ≤ 100000) (hB : B = (b.1 + 1, b.2 + n)) (kk : WP X d b M pc' l (vP (some k) :: st) (mNew σ (51, n)) Q) : WP X d B M pc l (vI z :: st) σ Q := by
  subst hlen
  exact r_newaB hd hp hw hz hn hB kk
theorem r_newaZL (hlen : σ.1.length = k) {z : Int} {n : Nat} (hd : decode M.1 pc = .ok (.newarray .boolean, 2)) (hp : pc + 2 = pc') (hw : Cond.arrayClass FieldType.boolean ∈ mT) (hz : z = (n : Int)) (hn : n ≤ 100000) (hB : B = (b.1 + 1, b.2 + n)) (kk : WP X d b M pc' l (vP (some k) :: st) (mNew σ (52, n)) Q) : WP X d B M pc l (vI z :: st) σ Q := by
  subst hlen
  exact r_newaZ hd hp hw hz hn hB kk
theorem r_newaLL (hlen : σ.1.length = k) {z : Int} {n : Nat} (hd : decode M.1 pc = .ok (.newarray .long, 2)) (hp : pc + 2 = pc') (hw : Cond.arrayClass FieldType.long ∈ mT) (hz : z = (n : Int)) (hn : n ≤ 100000) (hB : B = (b.1 + 1, b.2 + n)) (kk : WP X d b M pc' l (vP (some k) :: st) (mNew σ (53, n)) Q) : WP X d B M pc l (vI z :: st) σ Q := by
  subst hlen
  exact r_newaL hd hp hw hz hn hB kk
theorem r_anewL (hlen : σ.1.length = k) {t : Nat} {C : String} {idx : Nat} {z : Int} {n : Nat} (hd : decode M.1 pc = .ok (.anewarray idx, 3)) (hp : pc + 3 = pc') (hcl : Cond.classLink M.2.1.cls idx C ∈ mT) (hao : C ∈ mAO) (ht4 : 4 ≤ t) (ht8 : t < 8) (hty : mty t = .object C) (hz : z = (n : Int)) (hn : n ≤ 100000) (hB : B = (b.1 + 1, b.2 + n)) (kk : WP X d b M pc' l (vP (some k) :: st) (mNew σ (50 + t, n)) Q) : WP X d B M pc l (vI z :: st) σ Q := by
  subst hlen
  exact r_anew hd hp hcl hao ht4 ht8 hty hz hn hB kk
end NEWL
