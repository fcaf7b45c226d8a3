/-! BORDER, 12: the class's words with numbers, and its clauses -/
def pNdL (T : Nat → Int) (n : Nat) (L : List Int) (a : Nat) : Bool × Nat × Int :=
  if (pLit T n L a).1 = true then pNum T n (pLit T n L a).2 else (false, (pLit T n L a).2, 0)
section LITX
variable {X : mX} {d : Nat} {σ : mS} {Q : Option mV → mS → Prop} {T : Nat → Int} {n bb a : Nat} {C : List Int}
theorem pNdL_y {c : Int} {L : List Int} (h : chT T n a = c) : pNdL T n (c :: L) a = pNdL T n L (a + 1) := by
  unfold pNdL
  rw [show pLit T n (c :: L) a = pLit T n L (a + 1) by rw [pLit, if_pos h]]
theorem pNdL_n {c : Int} {L : List Int} (h : chT T n a ≠ c) : pNdL T n (c :: L) a = (false, a, 0) := by
  unfold pNdL
  rw [show pLit T n (c :: L) a = (false, a) by rw [pLit, if_neg h]] <;> rfl
theorem pNdL_nil : pNdL T n [] a = pNum T n a := by
  unfold pNdL
  exact if_pos rfl
theorem strK_drop {k i : Nat} (hi : i < (strB k).length) : (strB k).drop i = (strB k).getD i 0 :: (strB k).drop (i + 1) := by
  rw [List.drop_eq_getElem_cons hi]
  congr 1
  rw [List.getD_eq_getElem?_getD, List.getElem?_eq_getElem hi]
  rfl
theorem x_litLoop {k : Nat} (hk : 1 ≤ k ∧ k ≤ 6) : ∀ (m i a : Nat) (σ : mS), i + m = (strB k).length → PX T n bb a C σ → ((pNdL T n ((strB k).drop i) a).1 = true → ∀ σ', PX T n bb (pNdL T n ((strB k).drop i) a).2.1 C σ' → Agk (DFx bb) σ σ' → σ'.2.1 108 4 = (pNdL T n ((strB k).drop i) a).2.2 → Q (some (vI (bB true))) σ') → ((pNdL T n ((strB k).drop i) a).1 = false → ∀ σ', PX T n bb (pNdL T n ((strB k).drop i) a).2.1 C σ' → Agk (DFx bb) σ σ' → Q (some (vI (bB false))) σ') → WP X (d + 6) (0, 0) MX5_readNumbered 2 [(0, vP (some 108)), (1, vO k), (2, vI (i : Int))] [] σ Q := by
  have hl := (strK_len hk).2
  intro m
  induction m with
  | zero =>
    intro i a σ hi h hy hn
    rw [List.drop_eq_nil_of_le (by omega), pNdL_nil] at hy hn
    refine C_X5_readNumbered_2 (d := d + 5) h.1 hk (s_len (d := d + 4) hk ⟨_, rfl, h.1, by omega, by omega, fun _ => x_number (d := d) h (fun u σ' g1 g2 g3 => ⟨true, rfl, g1.1, hy u σ' g1 g2 g3⟩) (fun u => ⟨false, rfl, h.1, hn u σ ?_ (Agk.rf h.1)⟩), fun q => absurd q (by omega)⟩)
    rw [pNum_no u]
    exact h
  | succ m ih =>
    intro i a σ hi h hy hn
    obtain ⟨_, r⟩ := strK_at hk i (by omega)
    rw [strK_drop (k := k) (i := i) (by omega)] at hy hn
    refine C_X5_readNumbered_2 (d := d + 5) h.1 hk (s_len (d := d + 4) hk ⟨_, rfl, h.1, by omega, by omega, fun q => absurd q (by omega), fun _ => s_at (d := d + 2) hk ⟨by omega, by omega⟩ ⟨_, rfl, h.1, ?_⟩⟩)
    rw [show ((i : Nat) : Int).toNat = i by omega]
    refine x_skip (d := d + 4) h (by omega) (fun q σ' g1 g2 => ⟨true, rfl, g1.1, (fun q => nomatch q), fun _ => ?_⟩) (fun q => ⟨false, rfl, h.1, fun _ => ?_, (fun q => nomatch q)⟩)
    · rw [pNdL_y q] at hy hn
      rw [show (i : Int) + 1 = ((i + 1 : Nat) : Int) by omega]
      exact ih (i + 1) (a + 1) σ' (by omega) g1 (fun u σ2 f1 f2 f3 => hy u σ2 f1 (g2.tr f2 (fun _ _ h => h) (fun _ _ h => h)) f3) (fun u σ2 f1 f2 => hn u σ2 f1 (g2.tr f2 (fun _ _ h => h) (fun _ _ h => h)))
    · rw [pNdL_n q] at hn
      exact hn rfl σ h (Agk.rf h.1)
theorem x_numbered {k : Nat} (hk : 1 ≤ k ∧ k ≤ 6) (h : PX T n bb a C σ) (hy : (pNd T n k a).1 = true → ∀ σ', PX T n bb (pNd T n k a).2.1 C σ' → Agk (DFx bb) σ σ' → σ'.2.1 108 4 = (pNd T n k a).2.2 → Q (some (vI (bB true))) σ') (hn : (pNd T n k a).1 = false → ∀ σ', PX T n bb (pNd T n k a).2.1 C σ' → Agk (DFx bb) σ σ' → Q (some (vI (bB false))) σ') : CALL X (d + 6) (0, 0) MX5_readNumbered [vP (some 108), vO k] σ Q :=
  have e : pNdL T n ((strB k).drop 0) a = pNd T n k a := rfl
  C_X5_readNumbered (d := d + 5) h.1 hk (x_litLoop hk (strB k).length 0 a σ (by omega) h (by rw [e]; exact hy) (by rw [e]; exact hn))
end LITX
/-- the clauses that the class has read, its codes being C -/
def CX (bb : Nat) (Bs : List mCl) (C : List Int) (μ : mY) : Prop := μ bb 3 = restC Bs ∧ C = flX (keepC Bs)
def DBx (bb : Nat) : Nat → Nat → Prop := fun a k => (a = 108 ∧ (k = 2 ∨ k = 3 ∨ k = 4)) ∨ (a = bb ∧ (k = 2 ∨ k = 3)) ∨ a = bb + 1
theorem gDl_b {α : Type} {A B : List α} {j : Nat} {z : α} (h : j < A.length) : (A ++ B).getD j z = A.getD j z := by
  rw [List.getD_eq_getElem?_getD, List.getD_eq_getElem?_getD, List.getElem?_append_left h]
theorem gDr_b {α : Type} {A B : List α} {j : Nat} {z : α} (h : A.length ≤ j) : (A ++ B).getD j z = B.getD (j - A.length) z := by
  rw [List.getD_eq_getElem?_getD, List.getD_eq_getElem?_getD, List.getElem?_append_right h]
theorem keepC_y {Bs : List mCl} {c : mCl} (h : c.1 < 2) : keepC (Bs ++ [c]) = keepC Bs ++ [c] := by
  unfold keepC
  rw [List.filter_append]
  rw [List.filter_cons_of_pos (p := fun c : mCl => decide (c.1 < 2)) (a := c) (decide_eq_true h)] <;> rfl
theorem keepC_n {Bs : List mCl} {c : mCl} (h : ¬ c.1 < 2) : keepC (Bs ++ [c]) = keepC Bs := by
  unfold keepC
  rw [List.filter_append, List.filter_cons_of_neg (p := fun c : mCl => decide (c.1 < 2)) (a := c) (fun e => h (of_decide_eq_true e))]
  exact List.append_nil _
theorem restC_s {Bs : List mCl} {c : mCl} : restC (Bs ++ [c]) = if c.1 = 2 then c.2.1 else restC Bs := by
  unfold restC
  rw [List.foldl_append]
  rfl
theorem keepC_len {Bs : List mCl} : (keepC Bs).length ≤ Bs.length := List.length_filter_le _ _
theorem DFx_DBx {bb : Nat} : ∀ a k, DFx bb a k → DBx bb a k := by
  intro a k h
  unfold DFx at h
  unfold DBx
  omega
theorem flX_app : ∀ (K : List mCl) (c : mCl), flX (K ++ [c]) = flX K ++ (c.2.2 ++ [10000 + worC c])
  | [], c => rfl
  | c0 :: K, c => by
    simp only [List.cons_append, flX]
    rw [flX_app K c, List.append_assoc, List.cons_append]
/-- what the class keeps of a border, at its own place -/
def RXb (bb : Nat) (B : List mCl) (μ : mY) : Prop := μ bb 3 = restC B ∧ μ bb 2 = (flX (keepC B)).length ∧ (flX (keepC B)).length ≤ 100 ∧ ∀ j, j < (flX (keepC B)).length → μ (bb + 1) j = (flX (keepC B)).getD j 0
section ADDX
variable {X : mX} {d : Nat} {σ : mS} {Q : Option mV → mS → Prop} {T : Nat → Int} {n bb a : Nat} {C : List Int} {Bs : List mCl}
theorem CX.fr {σ' : mS} (h : CX bb Bs C σ.2.1) (hb : 85 ≤ bb ∧ bb ≤ 100 ∧ bb % 3 = 1) (hA : Agk (DFx bb) σ σ') : CX bb Bs C σ'.2.1 :=
  ⟨(hA.2.2 bb 3 (by unfold DFx; omega)).trans h.1, h.2⟩
theorem CX.rxb (h : CX bb Bs C σ.2.1) (hP : PX T n bb a C σ) : RXb bb Bs σ.2.1 := by
  obtain ⟨hs, hB, p1, p2, p3, p4, p5, p6, p7, p8, p9, p10, p11⟩ := hP
  obtain ⟨c1, rfl⟩ := h
  exact ⟨c1, p8, by omega, p10⟩
theorem x_addWorth (h : PX T n bb a C σ) (hl : C.length < a) {w : Int} (hw : -99 ≤ w ∧ w ≤ 99) (hQ : ∀ σ', PX T n bb a (C ++ [10000 + w]) σ' → Agk (DFx bb) σ σ' → Q none σ') : CALL X (d + 1) (0, 0) MX1_addWorth [vP (some bb), vI w] σ Q :=
  C_X1_addWorth h.1 h.2.1 (x_addCode h hl (by omega) (fun σ' f1 f2 => ⟨rfl, f1.1, hQ σ' f1 f2⟩))
end ADDX
