/-! BORDER, 1: what a text says, as numbers (pS: fuel, what is read (0 F, 1 T, 2 E, 3 T's further F, 4 E's further T), how many are open, where) -/
def chT (T : Nat → Int) (n a : Nat) : Int := if a < n then T a else -1
def plc : List Int → Int → Nat → Int
  | [], _, _ => -1
  | c :: cs, z, i => if c = z then (i : Int) else plc cs z (i + 1)
abbrev digL : List Int := [48, 49, 50, 51, 52, 53, 54, 55, 56, 57]
abbrev letL : List Int := [112, 107, 118, 116, 110, 104]
abbrev sigL : List Int := [60, 61, 62]
def pNum (T : Nat → Int) (n a : Nat) : Bool × Nat × Int :=
  if 0 ≤ plc digL (chT T n a) 0 then (if 0 ≤ plc digL (chT T n (a + 1)) 0 then (true, a + 2, 10 * plc digL (chT T n a) 0 + plc digL (chT T n (a + 1)) 0) else (true, a + 1, plc digL (chT T n a) 0)) else (false, a, 0)
def pTst (T : Nat → Int) (n a : Nat) : Bool × Nat × List Int :=
  if 0 ≤ plc letL (chT T n a) 0 then (if 0 ≤ plc sigL (chT T n (a + 1)) 0 then ((pNum T n (a + 2)).1, (pNum T n (a + 2)).2.1, [3 + (plc letL (chT T n a) 0 * 3 + plc sigL (chT T n (a + 1)) 0) * 100 + (pNum T n (a + 2)).2.2]) else (false, a + 1, [])) else (false, a, [])
def pS (T : Nat → Int) (n : Nat) : Nat → Nat → Nat → Nat → Bool × Nat × List Int
  | 0, _, _, a => (false, a, [])
  | f + 1, 0, k, a =>
    if chT T n a = 33 then (if k < 4 then ((pS T n f 0 (k + 1) (a + 1)).1, (pS T n f 0 (k + 1) (a + 1)).2.1, (pS T n f 0 (k + 1) (a + 1)).2.2 ++ [0]) else (false, a, []))
    else if chT T n a = 40 then (if k < 4 then (if (pS T n f 2 (k + 1) (a + 1)).1 = true then (if chT T n (pS T n f 2 (k + 1) (a + 1)).2.1 = 41 then (true, (pS T n f 2 (k + 1) (a + 1)).2.1 + 1, (pS T n f 2 (k + 1) (a + 1)).2.2) else (false, (pS T n f 2 (k + 1) (a + 1)).2.1, [])) else (false, (pS T n f 2 (k + 1) (a + 1)).2.1, [])) else (false, a, []))
    else pTst T n a
  | f + 1, 1, k, a => if (pS T n f 0 k a).1 = true then ((pS T n f 3 k (pS T n f 0 k a).2.1).1, (pS T n f 3 k (pS T n f 0 k a).2.1).2.1, (pS T n f 0 k a).2.2 ++ (pS T n f 3 k (pS T n f 0 k a).2.1).2.2) else (false, (pS T n f 0 k a).2.1, [])
  | f + 1, 2, k, a => if (pS T n f 1 k a).1 = true then ((pS T n f 4 k (pS T n f 1 k a).2.1).1, (pS T n f 4 k (pS T n f 1 k a).2.1).2.1, (pS T n f 1 k a).2.2 ++ (pS T n f 4 k (pS T n f 1 k a).2.1).2.2) else (false, (pS T n f 1 k a).2.1, [])
  | f + 1, 3, k, a => if chT T n a = 38 then (if (pS T n f 0 k (a + 1)).1 = true then ((pS T n f 3 k (pS T n f 0 k (a + 1)).2.1).1, (pS T n f 3 k (pS T n f 0 k (a + 1)).2.1).2.1, (pS T n f 0 k (a + 1)).2.2 ++ 1 :: (pS T n f 3 k (pS T n f 0 k (a + 1)).2.1).2.2) else (false, (pS T n f 0 k (a + 1)).2.1, [])) else (true, a, [])
  | f + 1, _, k, a => if chT T n a = 124 then (if (pS T n f 1 k (a + 1)).1 = true then ((pS T n f 4 k (pS T n f 1 k (a + 1)).2.1).1, (pS T n f 4 k (pS T n f 1 k (a + 1)).2.1).2.1, (pS T n f 1 k (a + 1)).2.2 ++ 2 :: (pS T n f 4 k (pS T n f 1 k (a + 1)).2.1).2.2) else (false, (pS T n f 1 k (a + 1)).2.1, [])) else (true, a, [])
section PSP
variable {T : Nat → Int} {n : Nat}
theorem chT_in {a : Nat} (h : chT T n a ≠ -1) : a < n := by
  unfold chT at h
  by_cases ha : a < n
  · exact ha
  · rw [if_neg ha] at h
    exact absurd rfl h
theorem plc_rng (z : Int) : ∀ (L : List Int) (i : Nat), plc L z i = -1 ∨ ((i : Int) ≤ plc L z i ∧ plc L z i < i + L.length)
  | [], _ => Or.inl rfl
  | c :: cs, i => by
    unfold plc
    by_cases hc : c = z
    · rw [if_pos hc]
      exact Or.inr ⟨Int.le_refl _, by simp only [List.length_cons]; omega⟩
    · rw [if_neg hc]
      rcases plc_rng z cs (i + 1) with h | h
      · exact Or.inl h
      · exact Or.inr ⟨by omega, by simp only [List.length_cons]; omega⟩
theorem plc_no : ∀ (L : List Int) (i : Nat), (∀ c ∈ L, c ≠ -1) → plc L (-1) i = -1
  | [], _, _ => rfl
  | c :: cs, i, h => by
    unfold plc
    rw [if_neg (h c List.mem_cons_self)]
    exact plc_no cs (i + 1) (fun c hc => h c (List.mem_cons_of_mem _ hc))
theorem plc_in {L : List Int} {a : Nat} (hL : ∀ c ∈ L, c ≠ -1) (h : 0 ≤ plc L (chT T n a) 0) : a < n := by
  refine chT_in (T := T) (n := n) (a := a) (fun e => ?_)
  rw [e, plc_no L 0 hL] at h
  exact absurd h (by decide)
theorem pNum_ok {a : Nat} : (pNum T n a).1 = true → a < (pNum T n a).2.1 ∧ (pNum T n a).2.1 ≤ n ∧ 0 ≤ (pNum T n a).2.2 ∧ (pNum T n a).2.2 ≤ 99 := by
  have e1 := plc_rng (chT T n a) digL 0
  have e2 := plc_rng (chT T n (a + 1)) digL 0
  simp only [List.length_cons, List.length_nil] at e1 e2
  unfold pNum
  by_cases h : 0 ≤ plc digL (chT T n a) 0
  · have g1 := plc_in (T := T) (n := n) (L := digL) (by decide) h
    rw [if_pos h]
    by_cases h2 : 0 ≤ plc digL (chT T n (a + 1)) 0
    · have g2 := plc_in (T := T) (n := n) (L := digL) (by decide) h2
      rw [if_pos h2]
      intro _
      simp only
      omega
    · rw [if_neg h2]
      intro _
      simp only
      omega
  · rw [if_neg h]
    intro h
    cases h
theorem pNum_no {a : Nat} : (pNum T n a).1 = false → (pNum T n a).2.1 = a := by
  unfold pNum
  split
  · split <;> (intro h; cases h)
  · intro _; rfl
theorem pTst_ok {a : Nat} : (pTst T n a).1 = true → a + 3 ≤ (pTst T n a).2.1 ∧ (pTst T n a).2.1 ≤ n ∧ ∃ c, (pTst T n a).2.2 = [c] ∧ 3 ≤ c ∧ c < 1803 := by
  have e1 := plc_rng (chT T n a) letL 0
  have e2 := plc_rng (chT T n (a + 1)) sigL 0
  simp only [List.length_cons, List.length_nil] at e1 e2
  unfold pTst
  by_cases h : 0 ≤ plc letL (chT T n a) 0
  · rw [if_pos h]
    by_cases h2 : 0 ≤ plc sigL (chT T n (a + 1)) 0
    · rw [if_pos h2]
      intro h3
      obtain ⟨k1, k2, k3, k4⟩ := pNum_ok h3
      exact ⟨by simp only; omega, k2, _, rfl, by omega, by omega⟩
    · rw [if_neg h2]
      intro h
      cases h
  · rw [if_neg h]
    intro h
    cases h
end PSP
section PSQ
variable {T : Nat → Int} {n : Nat}
theorem dp_0 {cs : List Int} {d : Nat} (h : 1 ≤ d) : dp (0 :: cs) d = dp cs d := by
  simp only [dp]
  rw [if_pos trivial, if_pos h]
theorem dp_1 {cs : List Int} {d : Nat} (h : 2 ≤ d) : dp (1 :: cs) d = dp cs (d - 1) := by
  simp only [dp]
  rw [if_neg (by decide), if_pos (Or.inl trivial), if_pos h]
theorem dp_2 {cs : List Int} {d : Nat} (h : 2 ≤ d) : dp (2 :: cs) d = dp cs (d - 1) := by
  simp only [dp]
  rw [if_neg (by decide), if_pos (Or.inr trivial), if_pos h]
theorem pS_F {f k a : Nat} : pS T n (f + 1) 0 k a = (if chT T n a = 33 then (if k < 4 then ((pS T n f 0 (k + 1) (a + 1)).1, (pS T n f 0 (k + 1) (a + 1)).2.1, (pS T n f 0 (k + 1) (a + 1)).2.2 ++ [0]) else (false, a, []))
    else if chT T n a = 40 then (if k < 4 then (if (pS T n f 2 (k + 1) (a + 1)).1 = true then (if chT T n (pS T n f 2 (k + 1) (a + 1)).2.1 = 41 then (true, (pS T n f 2 (k + 1) (a + 1)).2.1 + 1, (pS T n f 2 (k + 1) (a + 1)).2.2) else (false, (pS T n f 2 (k + 1) (a + 1)).2.1, [])) else (false, (pS T n f 2 (k + 1) (a + 1)).2.1, [])) else (false, a, []))
    else pTst T n a) := rfl
/-- how deep the row of answers may be when it begins -/
def dS (m k d : Nat) : Prop := d + 2 * (4 - k) + (if m = 0 then 0 else if m = 1 ∨ m = 3 then 1 else 2) < 30
theorem pS_ok : ∀ (f m k a : Nat), m ≤ 4 → (pS T n f m k a).1 = true → (m ≤ 2 → a < (pS T n f m k a).2.1) ∧ a ≤ (pS T n f m k a).2.1 ∧ (a ≤ n → (pS T n f m k a).2.1 ≤ n) ∧ (pS T n f m k a).2.2.length ≤ (pS T n f m k a).2.1 - a ∧
    ∀ (d : Nat) (rest : List Int), dS m k d → dp ((pS T n f m k a).2.2 ++ rest) (if m ≤ 2 then d else d + 1) = dp rest (d + 1)
  | 0, _, _, _, _, h => nomatch h
  | f + 1, 0, k, a, _, h => by
    rw [pS_F] at h ⊢
    by_cases c1 : chT T n a = 33
    · have ha := chT_in (T := T) (n := n) (a := a) (by rw [c1]; decide)
      rw [if_pos c1] at h ⊢
      by_cases ck : k < 4
      · rw [if_pos ck] at h ⊢
        obtain ⟨g1, g2, g3, g4, g5⟩ := pS_ok f 0 (k + 1) (a + 1) (by omega) h
        have g1 := g1 (by omega)
        refine ⟨fun _ => by simp only; omega, by simp only; omega, fun _ => g3 (by omega), by simp only [List.length_append, List.length_cons, List.length_nil]; omega, fun d rest hd => ?_⟩
        have := g5 d (0 :: rest) (by unfold dS at hd ⊢; simp only [if_true] at hd ⊢; omega)
        rw [if_pos (by omega)] at this
        simp only [if_pos (show (0 : Nat) ≤ 2 by omega), List.append_assoc, List.cons_append, List.nil_append]
        rw [this]
        exact dp_0 (by omega)
      · rw [if_neg ck] at h
        cases h
    · rw [if_neg c1] at h ⊢
      by_cases c2 : chT T n a = 40
      · have ha := chT_in (T := T) (n := n) (a := a) (by rw [c2]; decide)
        rw [if_pos c2] at h ⊢
        by_cases ck : k < 4
        · rw [if_pos ck] at h ⊢
          by_cases c3 : (pS T n f 2 (k + 1) (a + 1)).1 = true
          · obtain ⟨g1, g2, g3, g4, g5⟩ := pS_ok f 2 (k + 1) (a + 1) (by omega) c3
            have g1 := g1 (by omega)
            rw [if_pos c3] at h ⊢
            by_cases c4 : chT T n (pS T n f 2 (k + 1) (a + 1)).2.1 = 41
            · have ha4 := chT_in (T := T) (n := n) (a := (pS T n f 2 (k + 1) (a + 1)).2.1) (by rw [c4]; decide)
              rw [if_pos c4]
              refine ⟨fun _ => by simp only; omega, by simp only; omega, fun _ => by simp only; omega, by simp only; omega, fun d rest hd => ?_⟩
              have := g5 d rest (by unfold dS at hd ⊢; simp at hd ⊢; omega)
              rw [if_pos (by omega)] at this
              simp only [if_pos (show (0 : Nat) ≤ 2 by omega)]
              exact this
            · rw [if_neg c4] at h
              cases h
          · rw [if_neg c3] at h
            cases h
        · rw [if_neg ck] at h
          cases h
      · rw [if_neg c2] at h ⊢
        obtain ⟨g1, g2, c, g3, g4, g5⟩ := pTst_ok h
        refine ⟨fun _ => by omega, by omega, fun _ => g2, by rw [g3]; simp only [List.length_cons, List.length_nil]; omega, fun d rest hd => ?_⟩
        rw [g3]
        unfold dS at hd
        simp only [if_true] at hd
        simp only [if_pos (show (0 : Nat) ≤ 2 by omega), List.cons_append, List.nil_append, dp]
        rw [if_neg (by omega), if_neg (by omega), if_pos (by omega)]
  | f + 1, 1, k, a, _, h => by
    simp only [pS] at h ⊢
    by_cases c1 : (pS T n f 0 k a).1 = true
    · rw [if_pos c1] at h ⊢
      obtain ⟨g1, g2, g3, g4, g5⟩ := pS_ok f 0 k a (by omega) c1
      obtain ⟨k1, k2, k3, k4, k5⟩ := pS_ok f 3 k _ (by omega) h
      have g1 := g1 (by omega)
      refine ⟨fun _ => by simp only; omega, by simp only; omega, fun q => k3 (g3 q), by simp only [List.length_append]; omega, fun d rest hd => ?_⟩
      have e1 := g5 d ((pS T n f 3 k (pS T n f 0 k a).2.1).2.2 ++ rest) (by unfold dS at hd ⊢; simp at hd ⊢; omega)
      have e2 := k5 d rest (by unfold dS at hd ⊢; simp at hd ⊢; omega)
      simp only [if_pos (show (1 : Nat) ≤ 2 by omega), if_pos (show (0 : Nat) ≤ 2 by omega), if_neg (show ¬ (3 : Nat) ≤ 2 by omega), List.append_assoc] at e1 e2 ⊢
      rw [e1, e2]
    · rw [if_neg c1] at h
      cases h
  | f + 1, 2, k, a, _, h => by
    simp only [pS] at h ⊢
    by_cases c1 : (pS T n f 1 k a).1 = true
    · rw [if_pos c1] at h ⊢
      obtain ⟨g1, g2, g3, g4, g5⟩ := pS_ok f 1 k a (by omega) c1
      obtain ⟨k1, k2, k3, k4, k5⟩ := pS_ok f 4 k _ (by omega) h
      have g1 := g1 (by omega)
      refine ⟨fun _ => by simp only; omega, by simp only; omega, fun q => k3 (g3 q), by simp only [List.length_append]; omega, fun d rest hd => ?_⟩
      have e1 := g5 d ((pS T n f 4 k (pS T n f 1 k a).2.1).2.2 ++ rest) (by unfold dS at hd ⊢; simp at hd ⊢; omega)
      have e2 := k5 d rest (by unfold dS at hd ⊢; simp at hd ⊢; omega)
      simp only [if_pos (show (1 : Nat) ≤ 2 by omega), if_pos (show (2 : Nat) ≤ 2 by omega), if_neg (show ¬ (4 : Nat) ≤ 2 by omega), List.append_assoc] at e1 e2 ⊢
      rw [e1, e2]
    · rw [if_neg c1] at h
      cases h
  | f + 1, 3, k, a, _, h => by
    simp only [pS] at h ⊢
    by_cases c0 : chT T n a = 38
    · have ha := chT_in (T := T) (n := n) (a := a) (by rw [c0]; decide)
      rw [if_pos c0] at h ⊢
      by_cases c1 : (pS T n f 0 k (a + 1)).1 = true
      · rw [if_pos c1] at h ⊢
        obtain ⟨g1, g2, g3, g4, g5⟩ := pS_ok f 0 k (a + 1) (by omega) c1
        obtain ⟨k1, k2, k3, k4, k5⟩ := pS_ok f 3 k _ (by omega) h
        have g1 := g1 (by omega)
        refine ⟨fun q => absurd q (by omega), by simp only; omega, fun q => k3 (g3 (by omega)), by simp only [List.length_append, List.length_cons]; omega, fun d rest hd => ?_⟩
        have e1 := g5 (d + 1) (1 :: ((pS T n f 3 k (pS T n f 0 k (a + 1)).2.1).2.2 ++ rest)) (by unfold dS at hd ⊢; simp at hd ⊢; omega)
        have e2 := k5 d rest (by unfold dS at hd ⊢; simp at hd ⊢; omega)
        simp only [if_pos (show (0 : Nat) ≤ 2 by omega), if_neg (show ¬ (3 : Nat) ≤ 2 by omega), List.append_assoc, List.cons_append] at e1 e2 ⊢
        rw [e1]
        rw [dp_1 (by omega)]
        exact e2
      · rw [if_neg c1] at h
        cases h
    · rw [if_neg c0]
      exact ⟨fun q => absurd q (by omega), by simp only; omega, fun q => q, by simp, fun d rest hd => by simp⟩
  | f + 1, 4, k, a, _, h => by
    simp only [pS] at h ⊢
    by_cases c0 : chT T n a = 124
    · have ha := chT_in (T := T) (n := n) (a := a) (by rw [c0]; decide)
      rw [if_pos c0] at h ⊢
      by_cases c1 : (pS T n f 1 k (a + 1)).1 = true
      · rw [if_pos c1] at h ⊢
        obtain ⟨g1, g2, g3, g4, g5⟩ := pS_ok f 1 k (a + 1) (by omega) c1
        obtain ⟨k1, k2, k3, k4, k5⟩ := pS_ok f 4 k _ (by omega) h
        have g1 := g1 (by omega)
        refine ⟨fun q => absurd q (by omega), by simp only; omega, fun q => k3 (g3 (by omega)), by simp only [List.length_append, List.length_cons]; omega, fun d rest hd => ?_⟩
        have e1 := g5 (d + 1) (2 :: ((pS T n f 4 k (pS T n f 1 k (a + 1)).2.1).2.2 ++ rest)) (by unfold dS at hd ⊢; simp at hd ⊢; omega)
        have e2 := k5 d rest (by unfold dS at hd ⊢; simp at hd ⊢; omega)
        simp only [if_pos (show (1 : Nat) ≤ 2 by omega), if_neg (show ¬ (4 : Nat) ≤ 2 by omega), List.append_assoc, List.cons_append] at e1 e2 ⊢
        rw [e1]
        rw [dp_2 (by omega)]
        exact e2
      · rw [if_neg c1] at h
        cases h
    · rw [if_neg c0]
      exact ⟨fun q => absurd q (by omega), by simp only; omega, fun q => q, by simp, fun d rest hd => by simp⟩
end PSQ
