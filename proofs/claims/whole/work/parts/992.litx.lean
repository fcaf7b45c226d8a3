/-! BORDER, 12: the class's words with numbers, and its clauses -/
def pNdL (T : Nat → Int) (n : Nat) (L : List Int) (a : Nat) : Bool × Nat × Int :=
  if (pLit T n L a).1 = true then pNum T n (pLit T n L a).2 else (false, (pLit T n L a).2, 0)
section LITX
variable {X : mX} {d : Nat} {σ : mS} {Q : Option mV → mS → Prop} {T : Nat → Int} {n bb a : Nat} {C : List Int}
theorem pNdL_y {c : Int} {L : List Int} (h : chT T n a = c) : pNdL T n (c :: L) a = pNdL T n L (a + 1) := by
  unfold pNdL
  rw [show pLit T n (c :: L) a = pLit T n L (a + 1) by rw [pLit, if_pos h]]
theorem pNdL_n {c : Int} {L : List Int} (h : chT T n a ≠ c) : pNdL T n (c :: L) a = (false, a, 0) := by
  unfold pNdL
  rw [show pLit T n (c :: L) a = (false, a) by rw [pLit, if_neg h]] <;> rfl
theorem pNdL_nil : pNdL T n [] a = pNum T n a := by
  unfold pNdL
  exact if_pos rfl
theorem strK_drop {k i : Nat} (hi : i < (strB k).length) : (strB k).drop i = (strB k).getD i 0 :: (strB k).drop (i + 1) := by
  rw [List.drop_eq_getElem_cons hi]
  congr 1
  rw [List.getD_eq_getElem?_getD, List.getElem?_eq_getElem hi]
  rfl
theorem x_litLoop {k : Nat} (hk : 1 ≤ k ∧ k ≤ 6) : ∀ (m i a : Nat) (σ : mS), i + m = (strB k).length → PX T n bb a C σ → ((pNdL T n ((strB k).drop i) a).1 = true → ∀ σ', PX T n bb (pNdL T n ((strB k).drop i) a).2.1 C σ' → Agk (DFx bb) σ σ' → σ'.2.1 121 3 = (pNdL T n ((strB k).drop i) a).2.2 → Q (some (vI (bB true))) σ') → ((pNdL T n ((strB k).drop i) a).1 = false → ∀ σ', PX T n bb (pNdL T n ((strB k).drop i) a).2.1 C σ' → Agk (DFx bb) σ σ' → Q (some (vI (bB false))) σ') → WP X (d + 6) (0, 0) MX5_readNumbered 2 [(0, vP (some 121)), (1, vO k), (2, vI (i : Int))] [] σ Q := by
  have hl := (strK_len hk).2
  intro m
  induction m with
  | zero =>
    intro i a σ hi h hy hn
    rw [List.drop_eq_nil_of_le (by omega), pNdL_nil] at hy hn
    refine C_X5_readNumbered_2 (d := d + 5) h.1 hk (s_len (d := d + 4) hk ⟨_, rfl, h.1, by omega, by omega, fun _ => x_number (d := d) h (fun u σ' g1 g2 g3 => ⟨true, rfl, g1.1, hy u σ' g1 g2 g3⟩) (fun u => ⟨false, rfl, h.1, hn u σ ?_ (Agk.rf h.1)⟩), fun q => absurd q (by omega)⟩)
    rw [pNum_no u]
    exact h
  | succ m ih =>
    intro i a σ hi h hy hn
    obtain ⟨_, r⟩ := strK_at hk i (by omega)
    rw [strK_drop (k := k) (i := i) (by omega)] at hy hn
    refine C_X5_readNumbered_2 (d := d + 5) h.1 hk (s_len (d := d + 4) hk ⟨_, rfl, h.1, by omega, by omega, fun q => absurd q (by omega), fun _ => s_at (d := d + 2) hk ⟨by omega, by omega⟩ ⟨_, rfl, h.1, ?_⟩⟩)
    rw [show ((i : Nat) : Int).toNat = i by omega]
    refine x_skip (d := d + 4) h (by omega) (fun q σ' g1 g2 => ⟨true, rfl, g1.1, (fun q => nomatch q), fun _ => ?_⟩) (fun q => ⟨false, rfl, h.1, fun _ => ?_, (fun q => nomatch q)⟩)
    · rw [pNdL_y q] at hy hn
      rw [show (i : Int) + 1 = ((i + 1 : Nat) : Int) by omega]
      exact ih (i + 1) (a + 1) σ' (by omega) g1 (fun u σ2 f1 f2 f3 => hy u σ2 f1 (g2.tr f2 (fun _ _ h => h) (fun _ _ h => h)) f3) (fun u σ2 f1 f2 => hn u σ2 f1 (g2.tr f2 (fun _ _ h => h) (fun _ _ h => h)))
    · rw [pNdL_n q] at hn
      exact hn rfl σ h (Agk.rf h.1)
theorem x_numbered {k : Nat} (hk : 1 ≤ k ∧ k ≤ 6) (h : PX T n bb a C σ) (hy : (pNd T n k a).1 = true → ∀ σ', PX T n bb (pNd T n k a).2.1 C σ' → Agk (DFx bb) σ σ' → σ'.2.1 121 3 = (pNd T n k a).2.2 → Q (some (vI (bB true))) σ') (hn : (pNd T n k a).1 = false → ∀ σ', PX T n bb (pNd T n k a).2.1 C σ' → Agk (DFx bb) σ σ' → Q (some (vI (bB false))) σ') : CALL X (d + 6) (0, 0) MX5_readNumbered [vP (some 121), vO k] σ Q :=
  have e : pNdL T n ((strB k).drop 0) a = pNd T n k a := rfl
  C_X5_readNumbered (d := d + 5) h.1 hk (x_litLoop hk (strB k).length 0 a σ (by omega) h (by rw [e]; exact hy) (by rw [e]; exact hn))
end LITX
/-- the clauses that the class has read, its codes being C -/
def CX (bb : Nat) (Bs : List mCl) (C : List Int) (μ : mY) : Prop :=
  μ bb 6 = restC Bs ∧ μ bb 4 = (keepC Bs).length ∧ ∀ i, i < (keepC Bs).length → μ (bb + 1) i = worC ((keepC Bs).getD i cl0) ∧ 0 ≤ μ (bb + 2) i ∧ μ (bb + 3) i = μ (bb + 2) i + ((keepC Bs).getD i cl0).2.2.length ∧ μ (bb + 3) i ≤ C.length ∧ ∀ j : Nat, j < ((keepC Bs).getD i cl0).2.2.length → C.getD ((μ (bb + 2) i).toNat + j) 0 = ((keepC Bs).getD i cl0).2.2.getD j 0
def DBx (bb : Nat) : Nat → Nat → Prop := fun a k => (a = 121 ∧ (k = 2 ∨ k = 3)) ∨ (a = bb ∧ (k = 4 ∨ k = 5 ∨ k = 6)) ∨ (bb + 1 ≤ a ∧ a ≤ bb + 4)
theorem gDl_b {α : Type} {A B : List α} {j : Nat} {z : α} (h : j < A.length) : (A ++ B).getD j z = A.getD j z := by
  rw [List.getD_eq_getElem?_getD, List.getD_eq_getElem?_getD, List.getElem?_append_left h]
theorem gDr_b {α : Type} {A B : List α} {j : Nat} {z : α} (h : A.length ≤ j) : (A ++ B).getD j z = B.getD (j - A.length) z := by
  rw [List.getD_eq_getElem?_getD, List.getD_eq_getElem?_getD, List.getElem?_append_right h]
theorem keepC_y {Bs : List mCl} {c : mCl} (h : c.1 < 2) : keepC (Bs ++ [c]) = keepC Bs ++ [c] := by
  unfold keepC
  rw [List.filter_append]
  rw [List.filter_cons_of_pos (p := fun c : mCl => decide (c.1 < 2)) (a := c) (decide_eq_true h)] <;> rfl
theorem keepC_n {Bs : List mCl} {c : mCl} (h : ¬ c.1 < 2) : keepC (Bs ++ [c]) = keepC Bs := by
  unfold keepC
  rw [List.filter_append, List.filter_cons_of_neg (p := fun c : mCl => decide (c.1 < 2)) (a := c) (fun e => h (of_decide_eq_true e))]
  exact List.append_nil _
theorem restC_s {Bs : List mCl} {c : mCl} : restC (Bs ++ [c]) = if c.1 = 2 then c.2.1 else restC Bs := by
  unfold restC
  rw [List.foldl_append]
  rfl
theorem keepC_len {Bs : List mCl} : (keepC Bs).length ≤ Bs.length := List.length_filter_le _ _
theorem DFx_DBx {bb : Nat} : ∀ a k, DFx bb a k → DBx bb a k := by
  intro a k h
  unfold DFx at h
  unfold DBx
  omega
theorem CX.ext {bb : Nat} {Bs : List mCl} {C cs : List Int} {μ μ' : mY} (h : CX bb Bs C μ) (h6 : μ' bb 6 = μ bb 6) (h4 : μ' bb 4 = μ bb 4) (he : ∀ a k, bb + 1 ≤ a → a ≤ bb + 3 → μ' a k = μ a k) : CX bb Bs (C ++ cs) μ' := by
  obtain ⟨a1, a2, a3⟩ := h
  refine ⟨by rw [h6]; exact a1, by rw [h4]; exact a2, fun i hi => ?_⟩
  obtain ⟨b1, b2, b3, b4, b5⟩ := a3 i hi
  rw [he (bb + 1) i (by omega) (by omega), he (bb + 2) i (by omega) (by omega), he (bb + 3) i (by omega) (by omega)]
  refine ⟨b1, b2, b3, by rw [List.length_append]; omega, fun j hj => ?_⟩
  rw [gDl_b (by omega)]
  exact b5 j hj
section ADDX
variable {X : mX} {d : Nat} {σ : mS} {Q : Option mV → mS → Prop} {T : Nat → Int} {n bb a : Nat} {C : List Int} {Bs : List mCl}
theorem x_addCl (h : PX T n bb a C σ) (hC : CX bb Bs C σ.2.1) (hk : (keepC Bs).length ≤ 9) {s : Nat} {w num : Int} {cs : List Int} (hw : w = 0 ∨ w = 1) (hnum : 0 ≤ num ∧ num ≤ 99) (hsl : s + cs.length = C.length) (hcs : ∀ j, j < cs.length → C.getD (s + j) 0 = cs.getD j 0) {x1 : Int} (hx : x1 = worC (w, num, cs))
    (hQ : ∀ σ', PX T n bb a C σ' → CX bb (Bs ++ [(w, num, cs)]) C σ'.2.1 → Agk (DBx bb) σ σ' → Q none σ') : CALL X d (0, 0) MX1_addClause [vP (some bb), vI x1, vI (s : Int)] σ Q := by
  obtain ⟨hs, hB, p1, p2, p3, p4, p5, p6, p7, p8, p9, p10⟩ := h
  have hb := hB.rng
  obtain ⟨c1, c2, c3⟩ := hC
  have hxr : -99 ≤ x1 ∧ x1 ≤ 99 := by
    rw [hx]
    unfold worC
    split <;> simp only <;> omega
  have s1 : Sh (sI σ (bb + 1) (keepC Bs).length x1) := sh_I hs (by omega) (kB1 hs hB) (Or.inl (by decide))
  have s2 : Sh (sI (sI σ (bb + 1) (keepC Bs).length x1) (bb + 2) (keepC Bs).length (s : Int)) := sh_I s1 (by omega) (kB2 s1 hB) (Or.inl (by decide))
  have s3 : Sh (sI (sI (sI σ (bb + 1) (keepC Bs).length x1) (bb + 2) (keepC Bs).length (s : Int)) (bb + 3) (keepC Bs).length (C.length : Int)) := sh_I s2 (by omega) (kB3 s2 hB) (Or.inl (by decide))
  have s4 : Sh (sI (sI (sI (sI σ (bb + 1) (keepC Bs).length x1) (bb + 2) (keepC Bs).length (s : Int)) (bb + 3) (keepC Bs).length (C.length : Int)) bb 4 (((keepC Bs).length : Int) + 1)) := sh_I s3 (by omega) (kB s3 hB) (Or.inl (by decide))
  have e1 : (sI σ (bb + 1) (keepC Bs).length x1).2.1 bb 4 = (keepC Bs).length := by rw [sI_at, if_neg (by omega)]; exact c2
  have e2 : (sI (sI σ (bb + 1) (keepC Bs).length x1) (bb + 2) (keepC Bs).length (s : Int)).2.1 bb 4 = (keepC Bs).length := by rw [sI_at, if_neg (by omega)]; exact e1
  have e2' : (sI (sI σ (bb + 1) (keepC Bs).length x1) (bb + 2) (keepC Bs).length (s : Int)).2.1 bb 5 = C.length := by rw [sI_at, if_neg (by omega), sI_at, if_neg (by omega)]; exact p8
  have e3 : (sI (sI (sI σ (bb + 1) (keepC Bs).length x1) (bb + 2) (keepC Bs).length (s : Int)) (bb + 3) (keepC Bs).length (C.length : Int)).2.1 bb 4 = (keepC Bs).length := by rw [sI_at, if_neg (by omega)]; exact e2
  refine C_X1_addClause hs hB ?_
  rw [c2, Int.toNat_natCast, e1, Int.toNat_natCast, e2, Int.toNat_natCast, e2', e3]
  refine ⟨fun q => absurd q (by omega), fun _ => ⟨by omega, by omega, by omega, by omega, by omega, by omega, by omega, by omega, by omega, ?_⟩⟩
  have ef : ∀ b j, (sI (sI (sI (sI σ (bb + 1) (keepC Bs).length x1) (bb + 2) (keepC Bs).length (s : Int)) (bb + 3) (keepC Bs).length (C.length : Int)) bb 4 (((keepC Bs).length : Int) + 1)).2.1 b j = if b = bb ∧ j = 4 then ((keepC Bs).length : Int) + 1 else if b = bb + 3 ∧ j = (keepC Bs).length then (C.length : Int) else if b = bb + 2 ∧ j = (keepC Bs).length then (s : Int) else if b = bb + 1 ∧ j = (keepC Bs).length then x1 else σ.2.1 b j := fun _ _ => rfl
  refine hQ _ ⟨s4, hB, p1, p2, ?_, ?_, fun i hi => ?_, p6, p7, ?_, p9, fun j hj => ?_⟩ ⟨?_, ?_, fun i hi => ?_⟩ (((((Agk.rf hs).sI s1 (Or.inr (Or.inr (by omega)))).sI s2 (Or.inr (Or.inr (by omega)))).sI s3 (Or.inr (Or.inr (by omega)))).sI s4 (Or.inr (Or.inl ⟨rfl, Or.inl rfl⟩)))
  · rw [ef, if_neg (by omega), if_neg (by omega), if_neg (by omega), if_neg (by omega)]; exact p3
  · rw [ef, if_neg (by omega), if_neg (by omega), if_neg (by omega), if_neg (by omega)]; exact p4
  · rw [ef, if_neg (by omega), if_neg (by omega), if_neg (by omega), if_neg (by omega)]; exact p5 i hi
  · rw [ef, if_neg (by omega), if_neg (by omega), if_neg (by omega), if_neg (by omega)]; exact p8
  · rw [ef, if_neg (by omega), if_neg (by omega), if_neg (by omega), if_neg (by omega)]; exact p10 j hj
  · rw [ef, if_neg (by omega), if_neg (by omega), if_neg (by omega), if_neg (by omega), restC_s, if_neg (by simp only; omega)]; exact c1
  · rw [ef, if_pos ⟨rfl, rfl⟩, keepC_y (by simp only; omega), List.length_append]; simp only [List.length_cons, List.length_nil]; omega
  · rw [keepC_y (by simp only; omega)] at hi ⊢
    rw [List.length_append] at hi
    simp only [List.length_cons, List.length_nil] at hi
    by_cases hil : i < (keepC Bs).length
    · obtain ⟨b1, b2, b3, b4, b5⟩ := c3 i hil
      have nd : ∀ b, bb + 1 ≤ b → b ≤ bb + 3 → (sI (sI (sI (sI σ (bb + 1) (keepC Bs).length x1) (bb + 2) (keepC Bs).length (s : Int)) (bb + 3) (keepC Bs).length (C.length : Int)) bb 4 (((keepC Bs).length : Int) + 1)).2.1 b i = σ.2.1 b i := fun b h1 h2 => by rw [ef, if_neg (by omega), if_neg (by omega), if_neg (by omega), if_neg (by omega)]
      rw [nd (bb + 1) (by omega) (by omega), nd (bb + 2) (by omega) (by omega), nd (bb + 3) (by omega) (by omega), gDl_b hil]
      exact ⟨b1, b2, b3, b4, b5⟩
    · have v1 : (sI (sI (sI (sI σ (bb + 1) (keepC Bs).length x1) (bb + 2) (keepC Bs).length (s : Int)) (bb + 3) (keepC Bs).length (C.length : Int)) bb 4 (((keepC Bs).length : Int) + 1)).2.1 (bb + 1) i = x1 := by rw [ef, if_neg (by omega), if_neg (by omega), if_neg (by omega), if_pos ⟨rfl, by omega⟩]
      have v2 : (sI (sI (sI (sI σ (bb + 1) (keepC Bs).length x1) (bb + 2) (keepC Bs).length (s : Int)) (bb + 3) (keepC Bs).length (C.length : Int)) bb 4 (((keepC Bs).length : Int) + 1)).2.1 (bb + 2) i = s := by rw [ef, if_neg (by omega), if_neg (by omega), if_pos ⟨rfl, by omega⟩]
      have v3 : (sI (sI (sI (sI σ (bb + 1) (keepC Bs).length x1) (bb + 2) (keepC Bs).length (s : Int)) (bb + 3) (keepC Bs).length (C.length : Int)) bb 4 (((keepC Bs).length : Int) + 1)).2.1 (bb + 3) i = C.length := by rw [ef, if_neg (by omega), if_pos ⟨rfl, by omega⟩]
      rw [v1, v2, v3, gDr_b (by omega), show i - (keepC Bs).length = 0 by omega]
      refine ⟨hx, by omega, by show (C.length : Int) = (s : Int) + (cs.length : Int); omega, by omega, fun j hj => ?_⟩
      rw [Int.toNat_natCast]
      exact hcs j hj
end ADDX
