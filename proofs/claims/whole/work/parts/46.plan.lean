/-! hear and plan -/
section PLANS
variable {X : mX} {d : Nat} {σ : mS} {Q : Option mV → mS → Prop}
/-- rows of one of the three tables are changed on both sides -/
theorem Inv.rows (hi : Inv σ) {σ2 : mS} {D : Nat → Nat → Prop} (S : Nat → Nat → Prop) (hA : Agk D σ σ2) (hD : ∀ a k, D a k → DY a k) (hDm : ∀ a k, D a k → 125 ≤ a → S a k)
    (hS : ∀ a k, S a k → (a = 125 ∧ (k = 28 ∨ k = 32 ∨ k = 35)) ∨ (143 ≤ a ∧ a ≤ 149)) (h160 : ∀ k, S 146 k → S 147 k)
    (hv : ∀ a k, vp a k → S a k → (a = 147 → σ2.2.1 146 k ≠ 0) → σ2.2.1 (1 + (px a k).1) (px a k).2 = σ2.2.1 a k) (hx : ∀ a k, vp a k → ¬ S a k → ¬ D (1 + (px a k).1) (px a k).2)
    (hh : (0 ≤ σ2.2.1 125 28 ∧ σ2.2.1 125 28 ≤ 5) ∧ ∀ i : Nat, (i : Int) < σ2.2.1 125 28 → (0 ≤ σ2.2.1 143 i ∧ σ2.2.1 143 i < σ.2.1 125 0) ∧ (0 ≤ σ2.2.1 144 i ∧ σ2.2.1 144 i < σ.2.1 125 6) ∧ (σ2.2.1 145 i = 0 ∨ σ2.2.1 145 i = 1))
    (hp : (0 ≤ σ2.2.1 125 32 ∧ σ2.2.1 125 32 ≤ 10) ∧ ∀ i : Nat, (i : Int) < σ2.2.1 125 32 → (0 ≤ σ2.2.1 146 i ∧ σ2.2.1 146 i ≤ 3) ∧ (σ2.2.1 146 i = 1 → 0 ≤ σ2.2.1 147 i ∧ σ2.2.1 147 i / 10 < σ.2.1 125 6 ∧ σ2.2.1 147 i % 10 < σ.2.1 125 0) ∧ (σ2.2.1 146 i = 2 → 0 ≤ σ2.2.1 147 i ∧ σ2.2.1 147 i < σ.2.1 125 0) ∧ (σ2.2.1 146 i = 3 → 0 ≤ σ2.2.1 147 i ∧ σ2.2.1 147 i < σ.2.1 125 6))
    (hb : (0 ≤ σ2.2.1 125 35 ∧ σ2.2.1 125 35 ≤ 8) ∧ ∀ i : Nat, (i : Int) < σ2.2.1 125 35 → (0 ≤ σ2.2.1 148 i ∧ σ2.2.1 148 i < σ.2.1 125 6) ∧ (0 ≤ σ2.2.1 149 i ∧ σ2.2.1 149 i ≤ 99)) : Inv σ2 := by
  have nA : ∀ a k, 125 ≤ a → ¬ S a k → σ2.2.1 a k = σ.2.1 a k := fun a k q q' => hA.2.2 a k (fun h => q' (hDm a k h q))
  have nS : ∀ k, ¬ (k = 28 ∨ k = 32 ∨ k = 35) → ¬ S 125 k := fun k q q' => by have := hS _ _ q'; omega
  refine hi.dy (hA.mono hD) ⟨?_, ?_, ?_⟩
  · exact hi.2.1.1.sets2 S h160 hv (fun a k hp hns => hA.2.2 _ _ (hx a k hp hns)) (fun a k hp hns => nA a k (px_lt hp).2.1 hns)
  · rw [nA 125 18 (by decide) (nS _ (by decide))]
    have hW' := hi.2.1.2.1.cg (Y' := fun a k => if 125 ≤ a then σ.2.1 a k else σ2.2.1 a k) (fun a k hf => by rw [if_pos (by unfold FYm at hf; omega)])
    refine hW'.rows (fun a k q => ?_) hh hp hb
    by_cases ha : 125 ≤ a
    · rw [if_pos ha]
      exact nA a k ha (fun q' => q (hS a k q'))
    · rw [if_neg ha]
  · rw [nA 125 11 (by decide) (nS _ (by decide))]
    exact hi.2.1.2.2
theorem m_hear (hs : Sh σ) {x1 x2 x3 : Int} (h1 : -2147483648 ≤ x1 ∧ x1 ≤ 2147483647) (h2 : -2147483648 ≤ x2 ∧ x2 ≤ 2147483647) (h3 : -2147483648 ≤ x3 ∧ x3 ≤ 2147483647) {n : Nat} (hn : σ.2.1 125 28 = (n : Int)) (hn8 : n ≤ 5) (hg : 0 ≤ σ.2.1 125 0 ∧ σ.2.1 125 0 ≤ 6) (hq : 0 ≤ σ.2.1 125 6 ∧ σ.2.1 125 6 ≤ 6)
    (q0 : x1 = -1 → Q (some (vI 0)) (sI σ 125 28 0)) (q1 : x1 ≠ -1 → ¬ (0 ≤ x1 ∧ x1 < σ.2.1 125 0) ∨ ¬ (0 ≤ x2 ∧ x2 < σ.2.1 125 6) → Q (some (vI (-1))) σ) (q3 : 0 ≤ x1 ∧ x1 < σ.2.1 125 0 → 0 ≤ x2 ∧ x2 < σ.2.1 125 6 → n = 5 → Q (some (vI (-4))) σ)
    (q4 : 0 ≤ x1 ∧ x1 < σ.2.1 125 0 → 0 ≤ x2 ∧ x2 < σ.2.1 125 6 → n < 5 → ∀ σ', Agk (fun a k => (a = 125 ∧ k = 28) ∨ (a = 143 ∧ k = n) ∨ (a = 144 ∧ k = n) ∨ (a = 145 ∧ k = n)) σ σ' → σ'.2.1 125 28 = (n : Int) + 1 → σ'.2.1 143 n = x1 → σ'.2.1 144 n = x2 → σ'.2.1 145 n = (if x3 = 0 then 0 else 1) → Q (some (vI ((n : Int) + 1))) σ') : CALL X (d + 2) (0, 0) MX11_hear [vP (some 125), vI x1, vI x2, vI x3] σ Q := by
  refine C_X11_hear hs ⟨h1, fun h => c_isOne hs h1 hg ⟨_, rfl, hs, fun h3 => q1 h (Or.inl (of_decide_eq_false h3)), fun h5 => c_isAsked hs h2 hq ⟨_, rfl, hs, fun h4 => q1 h (Or.inr (of_decide_eq_false h4)), fun h4 => ⟨fun h6 => ?_, fun h6 => q3 (of_decide_eq_true h5) (of_decide_eq_true h4) (by omega)⟩⟩⟩, q0⟩
  have h5 := of_decide_eq_true h5
  have h4 := of_decide_eq_true h4
  have q4 := q4 h5 h4 (by omega)
  have a1 : (σ.2.1 125 28).toNat = n := by omega
  rw [a1]
  have e1 : (sI σ 143 n x1).2.1 125 28 = (n : Int) := by rw [sI_at, if_neg (by omega), hn]
  rw [e1, show ((n : Int)).toNat = n by omega]
  have e2 : (sI (sI σ 143 n x1) 144 n x2).2.1 125 28 = (n : Int) := by rw [sI_at, if_neg (by omega), e1]
  rw [e2, show ((n : Int)).toNat = n by omega]
  have hs1 : Sh (sI σ 143 n x1) := sh_I hs h1 (hs.k (a := 143) rfl) (Or.inl (by decide))
  have hs2 : Sh (sI (sI σ 143 n x1) 144 n x2) := sh_I hs1 h2 (hs1.k (a := 144) rfl) (Or.inl (by decide))
  have hs3 : Sh (sI (sI (sI σ 143 n x1) 144 n x2) 125 28 ((n : Int) + 1)) := sh_I hs2 (by omega) (hs2.k (a := 125) rfl) (Or.inl (by decide))
  have fin : ∀ z : Int, z = (if x3 = 0 then 0 else 1) → Q (some (vI ((sI (sI (sI (sI σ 143 n x1) 144 n x2) 125 28 ((n : Int) + 1)) 145 n z).2.1 125 28))) (sI (sI (sI (sI σ 143 n x1) 144 n x2) 125 28 ((n : Int) + 1)) 145 n z) := by
    intro z hz
    have hs4 : Sh (sI (sI (sI (sI σ 143 n x1) 144 n x2) 125 28 ((n : Int) + 1)) 145 n z) := sh_I hs3 (by split at hz <;> omega) (hs3.k (a := 145) rfl) (Or.inl (by decide))
    have e4 : (sI (sI (sI (sI σ 143 n x1) 144 n x2) 125 28 ((n : Int) + 1)) 145 n z).2.1 125 28 = (n : Int) + 1 := by rw [sI_at, if_neg (by omega), sI_at, if_pos ⟨rfl, rfl⟩]
    rw [e4]
    exact q4 _ (((((Agk.rf hs).sI hs1 (Or.inr (Or.inl ⟨rfl, rfl⟩))).sI hs2 (Or.inr (Or.inr (Or.inl ⟨rfl, rfl⟩)))).sI hs3 (Or.inl ⟨rfl, rfl⟩)).sI hs4 (Or.inr (Or.inr (Or.inr ⟨rfl, rfl⟩)))) e4
      (by rw [sI_at, if_neg (by omega), sI_at, if_neg (by omega), sI_at, if_neg (by omega), sI_at, if_pos ⟨rfl, rfl⟩]) (by rw [sI_at, if_neg (by omega), sI_at, if_neg (by omega), sI_at, if_pos ⟨rfl, rfl⟩]) (by rw [sI_at, if_pos ⟨rfl, rfl⟩, hz])
  exact ⟨by omega, by omega, by omega, by omega, h2, by omega, h3, fun h7 => ⟨by omega, by omega, fin 0 (by rw [if_pos h7])⟩, fun h7 => ⟨by omega, by omega, fin 1 (by rw [if_neg h7])⟩⟩
theorem op_hear (hi : Inv σ) {x1 x2 x3 : Int} (h1 : -2147483648 ≤ x1 ∧ x1 ≤ 2147483647) (h2 : -2147483648 ≤ x2 ∧ x2 ≤ 2147483647) (h3 : -2147483648 ≤ x3 ∧ x3 ≤ 2147483647) : BothI X (d + 2) MX10_hear MX11_hear [vI x1, vI x2, vI x3] σ Inv := by
  have hs := hi.1
  have hn := hi.now
  obtain ⟨b1, b2, b3, b4, b5, b6, b7, b8, b9, b10⟩ := hi.2.1.2.1
  have hc : σ.2.1 4 2 = σ.2.1 125 28 := hi.2.1.1.2.2.2.1.1
  obtain ⟨n, hk⟩ : ∃ n : Nat, σ.2.1 125 28 = (n : Int) := ⟨(σ.2.1 125 28).toNat, by omega⟩
  have go : ∀ z : Int, z = (if x3 = 0 then 0 else 1) → x1 ≠ -1 → 0 ≤ x1 ∧ x1 < σ.2.1 125 0 → 0 ≤ x2 ∧ x2 < σ.2.1 125 6 → CALL X (d + 1) (0, 0) MX6_add [vP (some 4), vI x1, vI x2, vI z] σ (fun v σ1 => ∃ z : Int, v = some (vI z) ∧ Sh σ1 ∧ ∃ z' : Int, some (vI z) = some (vI z') ∧ Sh σ1 ∧ (-2147483648 ≤ z' ∧ z' ≤ 2147483647) ∧ CALL X (d + 2) (0, 0) MX11_hear (vP (some 125) :: [vI x1, vI x2, vI x3]) σ1 (fun v' σ2 => v' = some (vI z') ∧ Inv σ2)) := by
    intro z hz h h5 h4
    refine c_add hs (isR2 (y := 1) (Or.inl rfl)) (n := n) (by rw [← hk, ← hc]) (show n ≤ 5 by omega) h1 h2 (by split at hz <;> omega) (fun h6 => ⟨_, rfl, hs, _, rfl, hs, by decide, ?_⟩) (fun h6 σ1 hA u1 u2 u3 u4 => ⟨_, rfl, hA.1, _, rfl, hA.1, ?_, ?_⟩)
    · have h6 : n = 5 := h6
      exact m_hear hs h1 h2 h3 hk (by omega) hn.2.1 hn.2.2.2 (fun h4 => absurd h4 h) (by omega) (fun _ _ _ => ⟨rfl, hi⟩) (by omega)
    · have h6 : n < 5 := h6
      omega
    · have h6 : n < 5 := h6
      have nA : ∀ a k, ¬ (a = 5 ∨ a = 4) → σ1.2.1 a k = σ.2.1 a k := fun a k q => hA.2.2 a k (by omega)
      have e0 : σ1.2.1 125 0 = σ.2.1 125 0 := nA 125 0 (by decide)
      have e6 : σ1.2.1 125 6 = σ.2.1 125 6 := nA 125 6 (by decide)
      refine m_hear hA.1 h1 h2 h3 (n := n) (by rw [nA 125 28 (by decide), hk]) (by omega) (by rw [e0]; exact hn.2.1) (by rw [e6]; exact hn.2.2.2) (fun h4 => absurd h4 h) (by omega) (by omega) (fun _ _ _ σ2 hB v1 v2 v3 v4 => ⟨rfl, ?_⟩)
      have nB : ∀ a k, ¬ ((a = 125 ∧ k = 28) ∨ (a = 143 ∧ k = n) ∨ (a = 144 ∧ k = n) ∨ (a = 145 ∧ k = n)) → σ2.2.1 a k = σ1.2.1 a k := hB.2.2
      have nAB : ∀ a k, 125 ≤ a → ¬ ((a = 125 ∧ k = 28) ∨ (a = 143 ∧ k = n) ∨ (a = 144 ∧ k = n) ∨ (a = 145 ∧ k = n)) → σ2.2.1 a k = σ.2.1 a k := fun a k q q' => (nB a k q').trans (nA a k (by omega))
      refine hi.rows (fun a k => (a = 125 ∧ k = 28) ∨ (a = 143 ∧ k = n) ∨ (a = 144 ∧ k = n) ∨ (a = 145 ∧ k = n)) (D := fun a k => ((a = 5 ∧ 3 * n ≤ k ∧ k < 3 * n + 3) ∨ (a = 4 ∧ k = 2)) ∨ ((a = 125 ∧ k = 28) ∨ (a = 143 ∧ k = n) ∨ (a = 144 ∧ k = n) ∨ (a = 145 ∧ k = n))) (hA.tr hB (fun a k q => Or.inl q) (fun a k q => Or.inr q)) (fun a k q => by unfold DY FYx FYm; omega) (fun a k q q' => by omega) (fun a k q => by omega) (fun k q => by omega) (fun a k _ q _ => ?_) (fun a k hp hns q => ?_) ⟨by rw [v1]; omega, fun i hi => ?_⟩ ?_ ?_
      · rcases q with ⟨rfl, rfl⟩ | ⟨rfl, rfl⟩ | ⟨rfl, rfl⟩ | ⟨rfl, rfl⟩
        · rw [v1, ← u4]; exact nB 4 2 (by omega)
        · rw [v2, ← u1]; exact nB 5 (3 * k) (by omega)
        · rw [v3, ← u2]; exact nB 5 (3 * k + 1) (by omega)
        · rw [v4, ← hz, ← u3]; exact nB 5 (3 * k + 2) (by omega)
      · have hl := px_lt hp
        have hr := px_row hp
        rcases q with (⟨q1, q2, q3⟩ | ⟨q1, q2⟩) | q
        · have := hr.1 (by omega)
          omega
        · have := hr.2.2.2.1 (by omega)
          omega
        · omega
      · rw [v1] at hi
        by_cases hz : i = n
        · rw [hz, v2, v3, v4]
          refine ⟨by omega, by omega, ?_⟩
          split <;> omega
        · rw [nAB 143 i (by decide) (by omega), nAB 144 i (by decide) (by omega), nAB 145 i (by decide) (by omega)]
          exact b8.2 i (by omega)
      · rw [nAB 125 32 (by decide) (by omega)]
        refine ⟨b9.1, fun i hi => ?_⟩
        rw [nAB 146 i (by decide) (by omega), nAB 147 i (by decide) (by omega)]
        exact b9.2 i hi
      · rw [nAB 125 35 (by decide) (by omega)]
        refine ⟨b10.1, fun i hi => ?_⟩
        rw [nAB 148 i (by decide) (by omega), nAB 149 i (by decide) (by omega)]
        exact b10.2 i hi
  refine C_X10_hear hs ⟨h1, fun h => c_guardAt hs (Or.inl rfl) h1 (by omega) ⟨_, rfl, hs, fun h5 => ⟨_, rfl, hs, by decide, ?_⟩, fun a ha => ?_⟩, fun h => C_X6_empty hs (isR2 (Or.inl rfl)) ?_⟩
  · have h5 := gAt_none h5
    exact m_hear hs h1 h2 h3 hk (by omega) hn.2.1 hn.2.2.2 (fun h4 => absurd h4 h) (fun _ _ => ⟨rfl, hi⟩) (fun h4 => by omega) (fun h4 => by omega)
  · obtain ⟨hg, hr, rfl⟩ := gAt_some (Or.inl rfl) ha (by omega)
    refine ⟨hg, c_questionAt hs (Or.inl rfl) h2 (by omega) ⟨_, rfl, hs, fun h5 => ⟨_, rfl, hs, by decide, ?_⟩, fun a hb => ?_⟩⟩
    · have h5 := qAt_none h5
      exact m_hear hs h1 h2 h3 hk (by omega) hn.2.1 hn.2.2.2 (fun h4 => absurd h4 h) (fun _ _ => ⟨rfl, hi⟩) (fun h4 => by omega) (fun h4 => by omega)
    · obtain ⟨hq, hr2, rfl⟩ := qAt_some (Or.inl rfl) hb (by omega)
      exact ⟨hq, h3, fun h7 => go 0 (by rw [if_pos h7]) h (by omega) (by omega), fun h7 => go 1 (by rw [if_neg h7]) h (by omega) (by omega)⟩
  · have hs1 : Sh (sI σ (1 + 3) 2 0) := sh_I hs (by decide) (hs.k (a := 4) rfl) (Or.inr (by decide))
    have hs2 : Sh (sI (sI σ (1 + 3) 2 0) 125 28 0) := sh_I hs1 (by decide) (hs1.k (a := 125) rfl) (Or.inl (by decide))
    refine ⟨_, rfl, hs1, _, rfl, hs1, by decide, C_X11_hear hs1 ⟨h1, fun h3 => absurd h h3, fun _ => ⟨rfl, ?_⟩⟩⟩
    have nAB : ∀ a k, ¬ ((a = 4 ∧ k = 2) ∨ (a = 125 ∧ k = 28)) → (sI (sI σ (1 + 3) 2 0) 125 28 0).2.1 a k = σ.2.1 a k := fun a k q => by rw [sI_at, if_neg (by omega), sI_at, if_neg (by omega)]
    have v1 : (sI (sI σ (1 + 3) 2 0) 125 28 0).2.1 125 28 = 0 := by rw [sI_at, if_pos ⟨rfl, rfl⟩]
    have v0 : (sI (sI σ (1 + 3) 2 0) 125 28 0).2.1 4 2 = 0 := by rw [sI_at, if_neg (by decide), sI_at, if_pos ⟨rfl, rfl⟩]
    have hA := ((Agk.rf hs).sI (D := fun a k => (a = 4 ∧ k = 2) ∨ (a = 125 ∧ k = 28)) hs1 (Or.inl ⟨rfl, rfl⟩)).sI hs2 (Or.inr ⟨rfl, rfl⟩)
    revert v1 v0 nAB hA
    generalize sI (sI σ (1 + 3) 2 0) 125 28 0 = σ2
    intro nAB v1 v0 hA
    refine hi.rows (fun a k => a = 125 ∧ k = 28) hA (fun a k q => by unfold DY FYx FYm; omega) (fun a k q q' => by omega) (fun a k q => by omega) (fun k q => by omega) (fun a k _ q _ => ?_) (fun a k hp hns q => ?_) ⟨by rw [v1]; omega, fun i hi => by rw [v1] at hi; omega⟩ ?_ ?_
    · obtain ⟨rfl, rfl⟩ := q
      rw [v1]; exact v0
    · have hl := px_lt hp
      have hr := px_row hp
      have := hr.2.2.2.1 (by omega)
      omega
    · rw [nAB 125 32 (by omega)]
      refine ⟨b9.1, fun i hi => ?_⟩
      rw [nAB 146 i (by omega), nAB 147 i (by omega)]
      exact b9.2 i hi
    · rw [nAB 125 35 (by omega)]
      refine ⟨b10.1, fun i hi => ?_⟩
      rw [nAB 148 i (by omega), nAB 149 i (by omega)]
      exact b10.2 i hi
end PLANS
