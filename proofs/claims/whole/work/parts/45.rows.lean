/-! rows: book, hear, plan -/
section ROWS
variable {X : mX} {d : Nat} {σ : mS} {Q : Option mV → mS → Prop}
theorem c_add (hs : Sh σ) {r : Nat} (hr : isR r) {n : Nat} (hn : σ.2.1 r 2 = (n : Int)) (hm : n ≤ rM r) {x1 x2 x3 : Int} (h1 : -2147483648 ≤ x1 ∧ x1 ≤ 2147483647) (h2 : -2147483648 ≤ x2 ∧ x2 ≤ 2147483647) (h3 : -2147483648 ≤ x3 ∧ x3 ≤ 2147483647) (q0 : n = rM r → Q (some (vI (-4))) σ)
    (q1 : n < rM r → ∀ σ', Agk (fun a k => (a = r + 1 ∧ 3 * n ≤ k ∧ k < 3 * n + 3) ∨ (a = r ∧ k = 2)) σ σ' → σ'.2.1 (r + 1) (3 * n) = x1 → σ'.2.1 (r + 1) (3 * n + 1) = x2 → σ'.2.1 (r + 1) (3 * n + 2) = x3 → σ'.2.1 r 2 = (n : Int) + 1 → Q (some (vI ((n : Int) + 1))) σ') : CALL X d (0, 0) MX6_add [vP (some r), vI x1, vI x2, vI x3] σ Q := by
  have hmost := hs.2.2.2.2 r hr
  have hM := rM_le r
  refine C_X6_add hs hr ?_
  have a1 : (σ.2.1 r 2 * 3).toNat = 3 * n := by omega
  rw [a1]
  have e1 : (sI σ (r + 1) (3 * n) x1).2.1 r 2 = σ.2.1 r 2 := by rw [sI_at, if_neg (by omega)]
  rw [e1]
  have a2 : (σ.2.1 r 2 * 3 + 1).toNat = 3 * n + 1 := by omega
  rw [a2]
  have e2 : (sI (sI σ (r + 1) (3 * n) x1) (r + 1) (3 * n + 1) x2).2.1 r 2 = σ.2.1 r 2 := by rw [sI_at, if_neg (by omega), e1]
  rw [e2]
  have a3 : (σ.2.1 r 2 * 3 + 2).toNat = 3 * n + 2 := by omega
  rw [a3]
  have e3 : (sI (sI (sI σ (r + 1) (3 * n) x1) (r + 1) (3 * n + 1) x2) (r + 1) (3 * n + 2) x3).2.1 r 2 = σ.2.1 r 2 := by rw [sI_at, if_neg (by omega), e2]
  rw [e3]
  have hs1 : Sh (sI σ (r + 1) (3 * n) x1) := sh_I hs h1 (kR1 hs hr) (Or.inl (show (50 : Nat) ≠ 6 by decide))
  have hs2 : Sh (sI (sI σ (r + 1) (3 * n) x1) (r + 1) (3 * n + 1) x2) := sh_I hs1 h2 (kR1 hs1 hr) (Or.inl (show (50 : Nat) ≠ 6 by decide))
  have hs3 : Sh (sI (sI (sI σ (r + 1) (3 * n) x1) (r + 1) (3 * n + 1) x2) (r + 1) (3 * n + 2) x3) := sh_I hs2 h3 (kR1 hs2 hr) (Or.inl (show (50 : Nat) ≠ 6 by decide))
  have hs4 : Sh (sI (sI (sI (sI σ (r + 1) (3 * n) x1) (r + 1) (3 * n + 1) x2) (r + 1) (3 * n + 2) x3) r 2 (σ.2.1 r 2 + 1)) := sh_I hs3 (by omega) (kR hs3 hr) (Or.inr (by decide))
  refine ⟨fun h => ⟨by omega, by omega, h1, by omega, by omega, h2, by omega, by omega, h3, by omega, ?_⟩, fun h => q0 (by omega)⟩
  have := q1 (by omega) _ (((((Agk.rf hs).sI hs1 (Or.inl ⟨rfl, by omega, by omega⟩)).sI hs2 (Or.inl ⟨rfl, by omega, by omega⟩)).sI hs3 (Or.inl ⟨rfl, by omega, by omega⟩)).sI hs4 (Or.inr ⟨rfl, rfl⟩))
    (by rw [sI_at, if_neg (by omega), sI_at, if_neg (by omega), sI_at, if_neg (by omega), sI_at, if_pos ⟨rfl, rfl⟩]) (by rw [sI_at, if_neg (by omega), sI_at, if_neg (by omega), sI_at, if_pos ⟨rfl, rfl⟩]) (by rw [sI_at, if_neg (by omega), sI_at, if_pos ⟨rfl, rfl⟩]) (by rw [sI_at, if_pos ⟨rfl, rfl⟩, hn])
  rw [sI_at (sI (sI (sI σ (r + 1) (3 * n) x1) (r + 1) (3 * n + 1) x2) (r + 1) (3 * n + 2) x3) r 2, if_pos ⟨rfl, rfl⟩, hn]
  rw [hn] at this
  exact this
theorem px_row {a k : Nat} (h : vp a k) : ((px a k).1 = 4 → a = 143 + (px a k).2 % 3 ∧ k = (px a k).2 / 3) ∧ ((px a k).1 = 6 → a = 146 + (px a k).2 % 3 ∧ k = (px a k).2 / 3) ∧ ((px a k).1 = 8 → a = 148 + (px a k).2 % 3 ∧ k = (px a k).2 / 3) ∧ ((px a k).1 = 3 → a = 125 ∧ k = 28) ∧ ((px a k).1 = 5 → a = 125 ∧ k = 32) ∧ ((px a k).1 = 7 → a = 125 ∧ k = 35) := by
  have h1 := ip_px h
  refine ⟨fun e => ?_, fun e => ?_, fun e => ?_, fun e => ?_, fun e => ?_, fun e => ?_⟩ <;> rw [e] at h1 <;> exact ⟨(Prod.mk.inj h1).1.symm, (Prod.mk.inj h1).2.symm⟩
theorem YR.sets2 {σ σ' : mS} {y : Nat} {Y Y' : mY} (S : Nat → Nat → Prop) (h : YR σ y Y) (h160 : ∀ k, S 146 k → S 147 k) (hS : ∀ a k, vp a k → S a k → (a = 147 → Y' 146 k ≠ 0) → σ'.2.1 (y + (px a k).1) (px a k).2 = Y' a k) (hx : ∀ a k, vp a k → ¬ S a k → σ'.2.1 (y + (px a k).1) (px a k).2 = σ.2.1 (y + (px a k).1) (px a k).2) (hm : ∀ a k, vp a k → ¬ S a k → Y' a k = Y a k) : YR σ' y Y' := by
  refine YRp.r (fun a k hp hz => ?_)
  by_cases hs : S a k
  · exact hS a k hp hs hz
  · rw [hm a k hp hs, hx a k hp hs]
    refine h.p a k hp (fun e => ?_)
    subst e
    rw [← hm 146 k (by unfold vp at hp ⊢; omega) (fun q => hs (h160 k q))]
    exact hz rfl
/-- the counts of rows may change, and rows behind them -/
theorem WFY.rows {nb : Int} {Y Y' : mY} (h : WFY nb Y) (hm : ∀ a k, ¬ ((a = 125 ∧ (k = 28 ∨ k = 32 ∨ k = 35)) ∨ (143 ≤ a ∧ a ≤ 149)) → Y' a k = Y a k)
    (hh : (0 ≤ Y' 125 28 ∧ Y' 125 28 ≤ 5) ∧ ∀ i : Nat, (i : Int) < Y' 125 28 → (0 ≤ Y' 143 i ∧ Y' 143 i < Y 125 0) ∧ (0 ≤ Y' 144 i ∧ Y' 144 i < Y 125 6) ∧ (Y' 145 i = 0 ∨ Y' 145 i = 1))
    (hp : (0 ≤ Y' 125 32 ∧ Y' 125 32 ≤ 10) ∧ ∀ i : Nat, (i : Int) < Y' 125 32 → (0 ≤ Y' 146 i ∧ Y' 146 i ≤ 3) ∧ (Y' 146 i = 1 → 0 ≤ Y' 147 i ∧ Y' 147 i / 10 < Y 125 6 ∧ Y' 147 i % 10 < Y 125 0) ∧ (Y' 146 i = 2 → 0 ≤ Y' 147 i ∧ Y' 147 i < Y 125 0) ∧ (Y' 146 i = 3 → 0 ≤ Y' 147 i ∧ Y' 147 i < Y 125 6))
    (hb : (0 ≤ Y' 125 35 ∧ Y' 125 35 ≤ 8) ∧ ∀ i : Nat, (i : Int) < Y' 125 35 → (0 ≤ Y' 148 i ∧ Y' 148 i < Y 125 6) ∧ (0 ≤ Y' 149 i ∧ Y' 149 i ≤ 99)) : WFY nb Y' := by
  have na : ∀ a, ¬ (a = 125 ∨ (143 ≤ a ∧ a ≤ 149)) → Y' a = Y a := fun a q => funext fun k => hm a k (by omega)
  obtain ⟨h1, h2, h3, h4, h5, h6, h7, -, -, -⟩ := h
  unfold WFY
  rw [hm 125 0 (by omega), hm 125 6 (by omega), hm 125 11 (by omega), hm 125 19 (by omega), na 126 (by omega), na 127 (by omega), na 128 (by omega), na 129 (by omega), na 130 (by omega), na 131 (by omega), na 132 (by omega), na 133 (by omega), na 134 (by omega)]
  exact ⟨h1, h2, h3, h4, h5, h6, h7, hh, hp, hb⟩
theorem m_book (hs : Sh σ) {x1 x2 : Int} (h1 : -2147483648 ≤ x1 ∧ x1 ≤ 2147483647) (h2 : -2147483648 ≤ x2 ∧ x2 ≤ 2147483647) {n : Nat} (hn : σ.2.1 125 35 = (n : Int)) (hn8 : n ≤ 8) (hq : 0 ≤ σ.2.1 125 6 ∧ σ.2.1 125 6 ≤ 6)
    (q0 : x1 = -1 → Q (some (vI 0)) (sI σ 125 35 0)) (q1 : x1 ≠ -1 → ¬ (0 ≤ x1 ∧ x1 < σ.2.1 125 6) → Q (some (vI (-1))) σ) (q2 : 0 ≤ x1 ∧ x1 < σ.2.1 125 6 → ¬ (0 ≤ x2 ∧ x2 ≤ 99) → Q (some (vI (-2))) σ) (q3 : 0 ≤ x1 ∧ x1 < σ.2.1 125 6 → 0 ≤ x2 ∧ x2 ≤ 99 → n = 8 → Q (some (vI (-4))) σ)
    (q4 : 0 ≤ x1 ∧ x1 < σ.2.1 125 6 → 0 ≤ x2 ∧ x2 ≤ 99 → n < 8 → ∀ σ', Agk (fun a k => (a = 125 ∧ k = 35) ∨ (a = 148 ∧ k = n) ∨ (a = 149 ∧ k = n)) σ σ' → σ'.2.1 125 35 = (n : Int) + 1 → σ'.2.1 148 n = x1 → σ'.2.1 149 n = x2 → Q (some (vI ((n : Int) + 1))) σ') : CALL X (d + 2) (0, 0) MX11_book [vP (some 125), vI x1, vI x2] σ Q := by
  refine C_X11_book hs ⟨h1, fun h => c_isAsked hs h1 hq ⟨_, rfl, hs, fun h3 => q1 h (of_decide_eq_false h3), fun h3 => c_within hs h2 (by decide) (by decide) ⟨_, rfl, hs, fun h4 => q2 (of_decide_eq_true h3) (of_decide_eq_false h4), fun h4 => ⟨fun h5 => ?_, fun h5 => q3 (of_decide_eq_true h3) (of_decide_eq_true h4) (by omega)⟩⟩⟩, q0⟩
  have h3 := of_decide_eq_true h3
  have h4 := of_decide_eq_true h4
  have q4 := q4 h3 h4 (by omega)
  have a1 : (σ.2.1 125 35).toNat = n := by omega
  rw [a1]
  have e1 : (sI σ 148 n x1).2.1 125 35 = (n : Int) := by rw [sI_at, if_neg (by omega), hn]
  rw [e1, show ((n : Int)).toNat = n by omega]
  have hs1 : Sh (sI σ 148 n x1) := sh_I hs h1 (hs.k (a := 148) rfl) (Or.inl (by decide))
  have hs2 : Sh (sI (sI σ 148 n x1) 125 35 ((n : Int) + 1)) := sh_I hs1 (by omega) (hs1.k (a := 125) rfl) (Or.inl (by decide))
  have hs3 : Sh (sI (sI (sI σ 148 n x1) 125 35 ((n : Int) + 1)) 149 n x2) := sh_I hs2 h2 (hs2.k (a := 149) rfl) (Or.inl (by decide))
  have e3 : (sI (sI (sI σ 148 n x1) 125 35 ((n : Int) + 1)) 149 n x2).2.1 125 35 = (n : Int) + 1 := by rw [sI_at, if_neg (by omega), sI_at, if_pos ⟨rfl, rfl⟩]
  refine ⟨by omega, by omega, by omega, by omega, by omega, h2, ?_⟩
  rw [e3]
  exact q4 _ ((((Agk.rf hs).sI hs1 (Or.inr (Or.inl ⟨rfl, rfl⟩))).sI hs2 (Or.inl ⟨rfl, rfl⟩)).sI hs3 (Or.inr (Or.inr ⟨rfl, rfl⟩))) e3 (by rw [sI_at, if_neg (by omega), sI_at, if_neg (by omega), sI_at, if_pos ⟨rfl, rfl⟩]) (by rw [sI_at, if_pos ⟨rfl, rfl⟩])
theorem op_book (hi : Inv σ) {x1 x2 : Int} (h1 : -2147483648 ≤ x1 ∧ x1 ≤ 2147483647) (h2 : -2147483648 ≤ x2 ∧ x2 ≤ 2147483647) : BothI X (d + 2) MX10_book MX11_book [vI x1, vI x2] σ Inv := by
  have hs := hi.1
  have hn := hi.now
  obtain ⟨hY1, hY2, hY3⟩ := hi.2.1
  have hW := hY2
  obtain ⟨b1, b2, b3, b4, b5, b6, b7, b8, b9, ⟨b10, b11⟩⟩ := hW
  have hc : σ.2.1 8 2 = σ.2.1 125 35 := hY1.2.2.2.2.2.1
  obtain ⟨n, hk⟩ : ∃ n : Nat, σ.2.1 125 35 = (n : Int) := ⟨(σ.2.1 125 35).toNat, by omega⟩
  refine C_X10_book hs ⟨h1, fun h => c_questionAt hs (Or.inl rfl) h1 (by omega) ⟨_, rfl, hs, fun h3 => ⟨_, rfl, hs, by decide, ?_⟩, fun a ha => ?_⟩, fun h => C_X6_empty hs (isR4 (Or.inl rfl)) ?_⟩
  · have h3 := qAt_none h3
    exact m_book hs h1 h2 hk (by omega) hn.2.2.2 (fun h4 => absurd h4 h) (fun _ _ => ⟨rfl, hi⟩) (fun h4 => by omega) (fun h4 => by omega) (fun h4 => by omega)
  · obtain ⟨hq, hr, rfl⟩ := qAt_some (Or.inl rfl) ha (by omega)
    refine ⟨hq, c_isUpTo99 hs h2 ⟨_, rfl, hs, fun h4 => ⟨_, rfl, hs, by decide, ?_⟩, fun h4 => c_add hs (isR4 (y := 1) (Or.inl rfl)) (n := n) (by rw [← hk, ← hc]) (show n ≤ 8 by omega) h1 h2 (by decide) (fun h5 => ⟨_, rfl, hs, _, rfl, hs, by decide, ?_⟩) (fun h5 σ1 hA u1 u2 _ u4 => ⟨_, rfl, hA.1, _, rfl, hA.1, ?_, ?_⟩)⟩⟩
    · have h4 := of_decide_eq_false h4
      exact m_book hs h1 h2 hk (by omega) hn.2.2.2 (fun h4 => absurd h4 h) (by omega) (fun _ _ => ⟨rfl, hi⟩) (by omega) (by omega)
    · have h4 := of_decide_eq_true h4
      have h5 : n = 8 := h5
      exact m_book hs h1 h2 hk (by omega) hn.2.2.2 (fun h4 => absurd h4 h) (by omega) (by omega) (fun _ _ _ => ⟨rfl, hi⟩) (by omega)
    · have h5 : n < 8 := h5
      omega
    · have h4 := of_decide_eq_true h4
      have h5 : n < 8 := h5
      have nA : ∀ a k, ¬ (a = 9 ∨ a = 8) → σ1.2.1 a k = σ.2.1 a k := fun a k q => hA.2.2 a k (by omega)
      have e6 : σ1.2.1 125 6 = σ.2.1 125 6 := nA 125 6 (by decide)
      refine m_book hA.1 h1 h2 (n := n) (by rw [nA 125 35 (by decide), hk]) (by omega) (by rw [e6]; exact hn.2.2.2) (fun h4 => absurd h4 h) (fun _ h6 => by omega) (by omega) (by omega) (fun _ _ _ σ2 hB v1 v2 v3 => ⟨rfl, ?_⟩)
      have nB : ∀ a k, ¬ ((a = 125 ∧ k = 35) ∨ (a = 148 ∧ k = n) ∨ (a = 149 ∧ k = n)) → σ2.2.1 a k = σ1.2.1 a k := hB.2.2
      have nAB : ∀ a k, 125 ≤ a → ¬ ((a = 125 ∧ k = 35) ∨ (a = 148 ∧ k = n) ∨ (a = 149 ∧ k = n)) → σ2.2.1 a k = σ.2.1 a k := fun a k q q' => (nB a k q').trans (nA a k (by omega))
      refine hi.dy (hA.tr hB (fun a k q => Or.inl (by unfold FYx; omega)) (fun a k q => Or.inr (by unfold FYm; omega))) ⟨?_, ?_, ?_⟩
      · refine hY1.sets2 (fun a k => (a = 125 ∧ k = 35) ∨ (a = 148 ∧ k = n) ∨ (a = 149 ∧ k = n)) (fun k q => by omega) (fun a k _ q _ => ?_) (fun a k hp hns => ?_) (fun a k hp hns => nAB a k (px_lt hp).2.1 hns)
        · rcases q with ⟨rfl, rfl⟩ | ⟨rfl, rfl⟩ | ⟨rfl, rfl⟩
          · rw [v1, ← u4]; exact nB 8 2 (by omega)
          · rw [v2, ← u1]; exact nB 9 (3 * k) (by omega)
          · rw [v3, ← u2]; exact nB 9 (3 * k + 1) (by omega)
        · have hl := px_lt hp
          have hr := px_row hp
          have hp' := hp
          unfold vp at hp'
          rw [nB _ _ (by omega)]
          refine hA.2.2 _ _ (fun q => ?_)
          rcases q with ⟨q1, q2, q3⟩ | ⟨q1, q2⟩
          · have := hr.2.2.1 (by omega)
            omega
          · have := hr.2.2.2.2.2 (by omega)
            omega
      · rw [nAB 125 18 (by decide) (by omega)]
        have hW' := hY2.cg (Y' := fun a k => if 125 ≤ a then σ.2.1 a k else σ2.2.1 a k) (fun a k hf => by rw [if_pos (by unfold FYm at hf; omega)])
        refine hW'.rows (fun a k q => ?_) ⟨?_, fun i hi => ?_⟩ ⟨?_, fun i hi => ?_⟩ ⟨?_, fun i hi => ?_⟩
        · by_cases ha : 125 ≤ a
          · rw [if_pos ha]
            exact nAB a k ha (by omega)
          · rw [if_neg ha]
        · rw [nAB 125 28 (by decide) (by omega)]; exact b8.1
        · rw [nAB 125 28 (by decide) (by omega)] at hi
          rw [nAB 143 i (by decide) (by omega), nAB 144 i (by decide) (by omega), nAB 145 i (by decide) (by omega)]
          exact b8.2 i hi
        · rw [nAB 125 32 (by decide) (by omega)]; exact b9.1
        · rw [nAB 125 32 (by decide) (by omega)] at hi
          rw [nAB 146 i (by decide) (by omega), nAB 147 i (by decide) (by omega)]
          exact b9.2 i hi
        · rw [v1]; omega
        · rw [v1] at hi
          show (0 ≤ σ2.2.1 148 i ∧ σ2.2.1 148 i < σ.2.1 125 6) ∧ (0 ≤ σ2.2.1 149 i ∧ σ2.2.1 149 i ≤ 99)
          by_cases hz : i = n
          · rw [hz, v2, v3]; omega
          · rw [nAB 148 i (by decide) (by omega), nAB 149 i (by decide) (by omega)]
            exact b11 i (by omega)
      · rw [nAB 125 11 (by decide) (by omega)]
        exact hY3
  · have hs1 : Sh (sI σ (1 + 7) 2 0) := sh_I hs (by decide) (hs.k (a := 8) rfl) (Or.inr (by decide))
    have hs2 : Sh (sI (sI σ (1 + 7) 2 0) 125 35 0) := sh_I hs1 (by decide) (hs1.k (a := 125) rfl) (Or.inl (by decide))
    refine ⟨_, rfl, hs1, _, rfl, hs1, by decide, C_X11_book hs1 ⟨h1, fun h3 => absurd h h3, fun _ => ⟨rfl, ?_⟩⟩⟩
    have nAB : ∀ a k, ¬ ((a = 8 ∧ k = 2) ∨ (a = 125 ∧ k = 35)) → (sI (sI σ (1 + 7) 2 0) 125 35 0).2.1 a k = σ.2.1 a k := fun a k q => by rw [sI_at, if_neg (by omega), sI_at, if_neg (by omega)]
    have v1 : (sI (sI σ (1 + 7) 2 0) 125 35 0).2.1 125 35 = 0 := by rw [sI_at, if_pos ⟨rfl, rfl⟩]
    have v0 : (sI (sI σ (1 + 7) 2 0) 125 35 0).2.1 8 2 = 0 := by rw [sI_at, if_neg (by decide), sI_at, if_pos ⟨rfl, rfl⟩]
    have hA := ((Agk.rf hs).sI (D := DY) hs1 (Or.inl (by unfold FYx; omega))).sI hs2 (Or.inr (by unfold FYm; omega))
    revert v1 v0 nAB hA
    generalize sI (sI σ (1 + 7) 2 0) 125 35 0 = σ2
    intro nAB v1 v0 hA
    refine hi.dy hA ⟨?_, ?_, ?_⟩
    · refine hY1.sets2 (fun a k => a = 125 ∧ k = 35) (fun k q => by omega) (fun a k _ q _ => ?_) (fun a k hp hns => ?_) (fun a k hp hns => nAB a k (by have := px_lt hp; omega))
      · obtain ⟨rfl, rfl⟩ := q
        rw [v1]; exact v0
      · refine nAB _ _ (fun q => ?_)
        have hl := px_lt hp
        have hr := px_row hp
        have := hr.2.2.2.2.2 (by omega)
        omega
    · rw [nAB 125 18 (by decide)]
      have hW' := hY2.cg (Y' := fun a k => if 125 ≤ a then σ.2.1 a k else σ2.2.1 a k) (fun a k hf => by rw [if_pos (by unfold FYm at hf; omega)])
      refine hW'.rows (fun a k q => ?_) ⟨?_, fun i hi => ?_⟩ ⟨?_, fun i hi => ?_⟩ ⟨?_, fun i hi => ?_⟩
      · by_cases ha : 125 ≤ a
        · rw [if_pos ha]
          exact nAB a k (by omega)
        · rw [if_neg ha]
      · rw [nAB 125 28 (by decide)]; exact b8.1
      · rw [nAB 125 28 (by decide)] at hi
        rw [nAB 143 i (by omega), nAB 144 i (by omega), nAB 145 i (by omega)]
        exact b8.2 i hi
      · rw [nAB 125 32 (by decide)]; exact b9.1
      · rw [nAB 125 32 (by decide)] at hi
        rw [nAB 146 i (by omega), nAB 147 i (by omega)]
        exact b9.2 i hi
      · rw [v1]; omega
      · rw [v1] at hi
        omega
    · rw [nAB 125 11 (by decide)]
      exact hY3
end ROWS
