/-! BORDER, 11: clauses and whole texts, as numbers -/
def pLit (T : Nat → Int) (n : Nat) : List Int → Nat → Bool × Nat
  | [], a => (true, a)
  | c :: L, a => if chT T n a = c then pLit T n L (a + 1) else (false, a)
def pNd (T : Nat → Int) (n kk a : Nat) : Bool × Nat × Int :=
  if (pLit T n (strB kk) a).1 = true then pNum T n (pLit T n (strB kk) a).2 else (false, (pLit T n (strB kk) a).2, 0)
def pJd (T : Nat → Int) (n a : Nat) : Bool × Nat × List Int :=
  if chT T n a = 32 then pS T n (4 * n + 3) 2 0 (a + 1) else (false, a, [])
def pCj (T : Nat → Int) (n kk : Nat) (w : Int) (a : Nat) : Bool × Nat × mCl :=
  if (pNd T n kk a).1 = true then ((pJd T n (pNd T n kk a).2.1).1, (pJd T n (pNd T n kk a).2.1).2.1, (w, (pNd T n kk a).2.2, (pJd T n (pNd T n kk a).2.1).2.2)) else (false, (pNd T n kk a).2.1, cl0)
def pCl (T : Nat → Int) (n a : Nat) : Bool × Nat × mCl :=
  if chT T n a = 107 then pCj T n 1 0 a else if chT T n a = 100 then pCj T n 5 1 a else if chT T n a = 114 then ((pNd T n 6 a).1, (pNd T n 6 a).2.1, (2, (pNd T n 6 a).2.2, [])) else (false, a, cl0)
def pCs (T : Nat → Int) (n : Nat) : Nat → Nat → Bool × Nat × List mCl
  | 0, a => (false, a, [])
  | m + 1, a => if (pCl T n a).1 = true then (if (pCl T n a).2.1 = n then (true, n, [(pCl T n a).2.2]) else if m = 0 then (false, (pCl T n a).2.1, []) else if chT T n (pCl T n a).2.1 = 59 then ((pCs T n m ((pCl T n a).2.1 + 1)).1, (pCs T n m ((pCl T n a).2.1 + 1)).2.1, (pCl T n a).2.2 :: (pCs T n m ((pCl T n a).2.1 + 1)).2.2) else (false, (pCl T n a).2.1, [])) else (false, (pCl T n a).2.1, [])
section PCL
variable {T : Nat → Int} {n : Nat}
theorem pCs_s {m a : Nat} : pCs T n (m + 1) a = (if (pCl T n a).1 = true then (if (pCl T n a).2.1 = n then (true, n, [(pCl T n a).2.2]) else if m = 0 then (false, (pCl T n a).2.1, []) else if chT T n (pCl T n a).2.1 = 59 then ((pCs T n m ((pCl T n a).2.1 + 1)).1, (pCs T n m ((pCl T n a).2.1 + 1)).2.1, (pCl T n a).2.2 :: (pCs T n m ((pCl T n a).2.1 + 1)).2.2) else (false, (pCl T n a).2.1, [])) else (false, (pCl T n a).2.1, [])) := rfl
theorem pLit_ok : ∀ (L : List Int) (a : Nat), (∀ c ∈ L, c ≠ -1) → a ≤ (pLit T n L a).2 ∧ (a ≤ n → (pLit T n L a).2 ≤ n)
  | [], a, _ => ⟨Nat.le_refl _, fun h => h⟩
  | c :: L, a, h => by
    unfold pLit
    by_cases hc : chT T n a = c
    · have ha := chT_in (T := T) (n := n) (a := a) (by rw [hc]; exact h c List.mem_cons_self)
      rw [if_pos hc]
      obtain ⟨g1, g2⟩ := pLit_ok L (a + 1) (fun c hc => h c (List.mem_cons_of_mem _ hc))
      exact ⟨by omega, fun _ => g2 (by omega)⟩
    · rw [if_neg hc]
      exact ⟨Nat.le_refl _, fun h => h⟩
theorem strB_no {k : Nat} (h : 1 ≤ k ∧ k ≤ 6) : ∀ c ∈ strB k, c ≠ -1 := by
  have : k = 1 ∨ k = 2 ∨ k = 3 ∨ k = 4 ∨ k = 5 ∨ k = 6 := by omega
  rcases this with rfl | rfl | rfl | rfl | rfl | rfl <;> decide
theorem pNd_ok {kk a : Nat} (hk : 1 ≤ kk ∧ kk ≤ 6) : a ≤ (pNd T n kk a).2.1 ∧ (a ≤ n → (pNd T n kk a).2.1 ≤ n) ∧ ((pNd T n kk a).1 = true → a < (pNd T n kk a).2.1 ∧ 0 ≤ (pNd T n kk a).2.2 ∧ (pNd T n kk a).2.2 ≤ 99) := by
  obtain ⟨g1, g2⟩ := pLit_ok (T := T) (n := n) (strB kk) a (strB_no hk)
  unfold pNd
  by_cases h : (pLit T n (strB kk) a).1 = true
  · rw [if_pos h]
    cases e : (pNum T n (pLit T n (strB kk) a).2).1 with
    | true =>
      obtain ⟨k1, k2, k3, k4⟩ := pNum_ok e
      exact ⟨by omega, fun _ => k2, fun _ => ⟨by omega, k3, k4⟩⟩
    | false =>
      have k1 := pNum_no e
      exact ⟨by omega, fun q => by rw [k1]; exact g2 q, fun q => by cases q⟩
  · rw [if_neg h]
    exact ⟨g1, g2, fun q => by cases q⟩
theorem pJd_ok {a : Nat} : (pJd T n a).1 = true → a < (pJd T n a).2.1 ∧ (pJd T n a).2.1 ≤ n ∧ (pJd T n a).2.2.length ≤ (pJd T n a).2.1 - a ∧ dp (pJd T n a).2.2 0 = some 1 := by
  unfold pJd
  by_cases h : chT T n a = 32
  · have ha := chT_in (T := T) (n := n) (a := a) (by rw [h]; decide)
    rw [if_pos h]
    intro u
    obtain ⟨w1, w2, w3, w4, w5⟩ := pS_ok (T := T) (n := n) (4 * n + 3) 2 0 (a + 1) (by omega) u
    have e := w5 0 [] (by unfold dS; decide)
    rw [List.append_nil, if_pos (by decide)] at e
    exact ⟨by omega, w3 (by omega), by omega, e⟩
  · rw [if_neg h]
    intro u
    cases u
theorem pCj_ok {kk a : Nat} {w : Int} (hk : 1 ≤ kk ∧ kk ≤ 6) (hw : w = 0 ∨ w = 1) (hn : n ≤ 100) : (pCj T n kk w a).1 = true → a < (pCj T n kk w a).2.1 ∧ (pCj T n kk w a).2.1 ≤ n ∧ (pCj T n kk w a).2.2.2.2.length ≤ (pCj T n kk w a).2.1 - a ∧ okC (pCj T n kk w a).2.2 := by
  obtain ⟨g1, g2, g3⟩ := pNd_ok (T := T) (n := n) (a := a) hk
  unfold pCj
  by_cases h : (pNd T n kk a).1 = true
  · rw [if_pos h]
    obtain ⟨g4, g5, g6⟩ := g3 h
    intro u
    obtain ⟨k1, k2, k3, k4⟩ := pJd_ok u
    refine ⟨?_, k2, ?_, ?_, ⟨g5, g6⟩, fun _ => k4, ?_⟩
    · simp only; omega
    · simp only; omega
    · simp only; omega
    · simp only; omega
  · rw [if_neg h]
    intro u
    cases u
theorem pCl_ok {a : Nat} (hn : n ≤ 100) : (pCl T n a).1 = true → a < (pCl T n a).2.1 ∧ (pCl T n a).2.1 ≤ n ∧ (pCl T n a).2.2.2.2.length ≤ (pCl T n a).2.1 - a ∧ okC (pCl T n a).2.2 := by
  unfold pCl
  by_cases h1 : chT T n a = 107
  · rw [if_pos h1]
    exact pCj_ok (by decide) (Or.inl rfl) hn
  · rw [if_neg h1]
    by_cases h2 : chT T n a = 100
    · rw [if_pos h2]
      exact pCj_ok (by decide) (Or.inr rfl) hn
    · rw [if_neg h2]
      by_cases h3 : chT T n a = 114
      · have ha := chT_in (T := T) (n := n) (a := a) (by rw [h3]; decide)
        rw [if_pos h3]
        obtain ⟨g1, g2, g3⟩ := pNd_ok (T := T) (n := n) (a := a) (kk := 6) (by decide)
        intro u
        obtain ⟨g4, g5, g6⟩ := g3 u
        have g2 := g2 (by omega)
        exact ⟨g4, g2, Nat.zero_le _, ⟨⟨show (0 : Int) ≤ 2 by decide, show (2 : Int) ≤ 2 by decide⟩, ⟨g5, g6⟩, fun q => absurd (show (2 : Int) < 2 from q) (by decide), Nat.zero_le _⟩⟩
      · rw [if_neg h3]
        intro u
        cases u
theorem pCs_ok (hn : n ≤ 100) : ∀ (m a : Nat), (pCs T n m a).1 = true → (1 ≤ (pCs T n m a).2.2.length ∧ (pCs T n m a).2.2.length ≤ m) ∧ ∀ c ∈ (pCs T n m a).2.2, okC c
  | 0, _, h => nomatch h
  | m + 1, a, h => by
    rw [pCs_s] at h ⊢
    by_cases h1 : (pCl T n a).1 = true
    · rw [if_pos h1] at h ⊢
      obtain ⟨g1, g2, g3, g4⟩ := pCl_ok hn h1
      by_cases h2 : (pCl T n a).2.1 = n
      · rw [if_pos h2]
        exact ⟨⟨Nat.le_refl _, by simp⟩, fun c hc => by have hc : c ∈ [(pCl T n a).2.2] := hc; rw [List.mem_singleton] at hc; rw [hc]; exact g4⟩
      · rw [if_neg h2] at h ⊢
        by_cases h3 : m = 0
        · rw [if_pos h3] at h
          cases h
        · rw [if_neg h3] at h ⊢
          by_cases h4 : chT T n (pCl T n a).2.1 = 59
          · rw [if_pos h4] at h ⊢
            obtain ⟨⟨k1, k2⟩, k3⟩ := pCs_ok hn m _ h
            refine ⟨⟨by simp, by simp only [List.length_cons]; omega⟩, fun c hc => ?_⟩
            rcases List.mem_cons.1 hc with rfl | hc
            · exact g4
            · exact k3 c hc
          · rw [if_neg h4] at h
            cases h
    · rw [if_neg h1] at h
      cases h
end PCL
