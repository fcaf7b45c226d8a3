/-! question -/
section QUESTOP
variable {X : mX} {d : Nat} {σ : mS} {Q : Option mV → mS → Prop} {y : Nat} {Y Z : mY} {B : List mCl}
def SQn (G : Nat) : Nat → Nat → Prop := fun a k => (a = 125 ∧ k = 6) ∨ (131 ≤ a ∧ a ≤ 134 ∧ k = G)
def nvQ (G : Nat) (x1 x2 : Int) (a : Nat) : Int := if a = 125 then (G : Int) + 1 else if a = 131 then x1 else if a = 132 then x2 else if a = 133 then 0 else -5
theorem WFY.moreQn {nb : Int} {G : Nat} {x1 x2 : Int} (h : WFY nb Y) (hG : Y 125 6 = (G : Int)) (hG5 : G < 6) (h1 : 0 ≤ x1 ∧ x1 ≤ 4095) (h2 : 0 ≤ x2 ∧ x2 ≤ 99) (hv : ∀ a k, vp a k → SQn G a k → Z a k = nvQ G x1 x2 a) (ho : ∀ a k, FYm a k → ¬ SQn G a k → Z a k = Y a k) : WFY nb Z := by
  obtain ⟨p1, p2⟩ := h.pl
  obtain ⟨q1, q2⟩ := h.hr
  obtain ⟨b1, b2⟩ := h.bk
  obtain ⟨w1, w2, w3, w4, w5, w6, w7, -, -, -⟩ := h
  have n0 : Z 125 6 = (G : Int) + 1 := hv 125 6 (by unfold vp; omega) (by unfold SQn; omega)
  have sn : ∀ k, k ≠ 6 → ¬ SQn G 125 k := fun k hk q => by
    unfold SQn at q
    omega
  have c0 : Z 125 0 = Y 125 0 := ho 125 0 (Or.inl ⟨rfl, by decide⟩) (sn 0 (by decide))
  have c11 : Z 125 11 = Y 125 11 := ho 125 11 (Or.inl ⟨rfl, by decide⟩) (sn 11 (by decide))
  have c19 : Z 125 19 = Y 125 19 := ho 125 19 (Or.inl ⟨rfl, by decide⟩) (sn 19 (by decide))
  have c28 : Z 125 28 = Y 125 28 := ho 125 28 (Or.inl ⟨rfl, by decide⟩) (sn 28 (by decide))
  have c32 : Z 125 32 = Y 125 32 := ho 125 32 (Or.inl ⟨rfl, by decide⟩) (sn 32 (by decide))
  have c35 : Z 125 35 = Y 125 35 := ho 125 35 (Or.inl ⟨rfl, by decide⟩) (sn 35 (by decide))
  have a : ∀ a k, (126 ≤ a ∧ a ≤ 130) ∨ (143 ≤ a ∧ a ≤ 149) → Z a k = Y a k := fun a k hk => ho a k (Or.inr (hk.elim (fun q => Or.inl ⟨q.1, by omega⟩) (fun q => Or.inr q))) (fun q => by unfold SQn at q; omega)
  have ga : ∀ a k, 131 ≤ a ∧ a ≤ 134 → ¬ SQn G a k → Z a k = Y a k := fun a k hk hn => ho a k (Or.inr (Or.inl ⟨by omega, hk.2⟩)) hn
  unfold WFY
  rw [n0, c0, c11, c19, c28, c32, c35]
  refine ⟨w1, by omega, w3, w4, fun p hp => ?_, fun i hi => ?_, fun q hq => ?_, ⟨q1, fun i hi => ?_⟩, ⟨p1, fun i hi => ?_⟩, ⟨b1, fun i hi => ?_⟩⟩
  · rw [a 126 p (by omega), a 127 p (by omega), a 128 p (by omega), a 129 p (by omega)]
    exact w5 p hp
  · rw [a 130 i (by omega)]
    exact w6 i hi
  · by_cases hz : q = G
    · have e1 : Z 131 q = x1 := hv 131 q (by unfold vp; omega) (by unfold SQn; omega)
      have e2 : Z 132 q = x2 := hv 132 q (by unfold vp; omega) (by unfold SQn; omega)
      have e3 : Z 133 q = 0 := hv 133 q (by unfold vp; omega) (by unfold SQn; omega)
      have e4 : Z 134 q = -5 := hv 134 q (by unfold vp; omega) (by unfold SQn; omega)
      rw [e1, e2, e3, e4]
      exact ⟨by omega, h2, by decide, fun _ => Or.inl rfl⟩
    · have := w7 q hq
      rw [ga 131 q (by decide) (by unfold SQn; omega), ga 132 q (by decide) (by unfold SQn; omega), ga 133 q (by decide) (by unfold SQn; omega), ga 134 q (by decide) (by unfold SQn; omega)]
      exact ⟨this.1, this.2.1, this.2.2.1, fun hl => this.2.2.2 (by omega)⟩
  · have := q2 i hi
    rw [a 143 i (by omega), a 144 i (by omega), a 145 i (by omega)]
    exact ⟨this.1, by omega, this.2.2⟩
  · have := p2 i hi
    rw [a 146 i (by omega), a 147 i (by omega)]
    refine ⟨this.1, fun h1 => ?_, this.2.2.1, fun h1 => ?_⟩
    · have := this.2.1 h1
      exact ⟨this.1, by omega, this.2.2⟩
    · have := this.2.2.2 h1
      omega
  · have := b2 i hi
    rw [a 148 i (by omega), a 149 i (by omega)]
    exact ⟨by omega, this.2⟩
theorem op_question (hi : Inv σ) {x1 x2 : Int} (h1 : -2147483648 ≤ x1 ∧ x1 ≤ 2147483647) (h2 : -2147483648 ≤ x2 ∧ x2 ≤ 2147483647) : BothI X (d + 3) MX10_question MX11_question [vI x1, vI x2] σ Inv := by
  have hs := hi.1
  have hn := hi.now
  obtain ⟨G, hG⟩ : ∃ n : Nat, σ.2.1 125 6 = (n : Int) := ⟨(σ.2.1 125 6).toNat, by omega⟩
  have mm : ∀ z : Int, (¬ (0 ≤ x1 ∧ x1 ≤ 4095) ∨ ¬ (0 ≤ x2 ∧ x2 ≤ 99) → z = -2) → (0 ≤ x1 ∧ x1 ≤ 4095 → 0 ≤ x2 ∧ x2 ≤ 99 → G = 6 ∧ z = -4) → CALL X (d + 3) (0, 0) MX11_question [vP (some 125), vI x1, vI x2] σ (fun v' σ2 => v' = some (vI z) ∧ Inv σ2) := by
    intro z k2 k3
    refine C_X11_question hs (c_areMatters hs h1 ⟨_, rfl, hs, fun g1 => ?_, fun g1 => c_within hs h2 (by decide) (by decide) ⟨_, rfl, hs, fun g2 => ?_, fun g2 => ?_⟩⟩)
    · rw [k2 (Or.inl (of_decide_eq_false g1))]
      exact ⟨rfl, hi⟩
    · rw [k2 (Or.inr (of_decide_eq_false g2))]
      exact ⟨rfl, hi⟩
    · have := k3 (of_decide_eq_true g1) (of_decide_eq_true g2)
      refine ⟨fun h => absurd (show σ.2.1 125 6 = 6 by omega) h, fun _ => ?_⟩
      rw [this.2]
      exact ⟨rfl, hi⟩
  refine C_X10_question hs (c_isSet hs h1 ⟨_, rfl, hs, fun g1 => ⟨_, rfl, hs, by decide, mm _ (fun _ => rfl) (fun h => absurd h (of_decide_eq_false g1))⟩, fun g1 => c_isUpTo99 hs h2 ⟨_, rfl, hs, fun g2 => ⟨_, rfl, hs, by decide, mm _ (fun _ => rfl) (fun _ h => absurd h (of_decide_eq_false g2))⟩, fun g2 => ?_⟩⟩)
  have g1 := of_decide_eq_true g1
  have g2 := of_decide_eq_true g2
  refine C_X9_addQuestion hs (Or.inl rfl) ⟨fun h => ⟨by omega, ?_⟩, fun h => ⟨_, rfl, hs, _, rfl, hs, by decide, mm _ (fun h => by omega) (fun _ _ => ⟨by omega, rfl⟩)⟩⟩
  have hG5 : G < 6 := by omega
  rw [hn.2.2.1, hG, show ((G : Int)).toNat = G by omega]
  have hg : isQ (1 + 11 + 3 * G) := ⟨1, G, Or.inl rfl, hG5, rfl⟩
  have v0 : vp 131 G ∧ vp 132 G ∧ vp 133 G ∧ vp 134 G := by unfold vp; omega
  have d0 : DPx (SQn G) (1 + 11 + 3 * G) 0 := ⟨131, G, v0.1, by unfold SQn; omega, Nat.add_assoc 1 11 _, rfl⟩
  have d1 : DPx (SQn G) (1 + 11 + 3 * G) 1 := ⟨132, G, v0.2.1, by unfold SQn; omega, Nat.add_assoc 1 11 _, rfl⟩
  have d2 : DPx (SQn G) (1 + 11 + 3 * G) 2 := ⟨133, G, v0.2.2.1, by unfold SQn; omega, Nat.add_assoc 1 11 _, rfl⟩
  have d3 : DPx (SQn G) (1 + 11 + 3 * G) 3 := ⟨134, G, v0.2.2.2, by unfold SQn; omega, Nat.add_assoc 1 11 _, rfl⟩
  have d5 : DPx (SQn G) 1 6 := ⟨125, 6, by unfold vp; omega, by unfold SQn; omega, rfl, rfl⟩
  have hs1 : Sh (sI σ (1 + 11 + 3 * G) 0 x1) := sh_I hs h1 (kQ hs hg) (Or.inl (by decide))
  have hs2 : Sh (sI (sI σ (1 + 11 + 3 * G) 0 x1) (1 + 11 + 3 * G) 1 x2) := sh_I hs1 h2 (kQ hs1 hg) (Or.inl (by decide))
  have hs3 : Sh (sI (sI (sI σ (1 + 11 + 3 * G) 0 x1) (1 + 11 + 3 * G) 1 x2) (1 + 11 + 3 * G) 2 0) := sh_I hs2 (by decide) (kQ hs2 hg) (Or.inl (by decide))
  have hs4 : Sh (sI (sI (sI (sI σ (1 + 11 + 3 * G) 0 x1) (1 + 11 + 3 * G) 1 x2) (1 + 11 + 3 * G) 2 0) (1 + 11 + 3 * G) 3 (-5)) := sh_I hs3 (by decide) (kQ hs3 hg) (Or.inl (by decide))
  refine C_X4_become hs hg ⟨h1, h2, rfl, hs4, ?_⟩
  have e5 : (sI (sI (sI (sI σ (1 + 11 + 3 * G) 0 x1) (1 + 11 + 3 * G) 1 x2) (1 + 11 + 3 * G) 2 0) (1 + 11 + 3 * G) 3 (-5)).2.1 1 6 = (G : Int) := by rw [sI_at, if_neg (by omega), sI_at, if_neg (by omega), sI_at, if_neg (by omega), sI_at, if_neg (by omega), hn.2.2.1, hG]
  rw [e5, sI_at, if_pos ⟨rfl, rfl⟩, show (G : Int) + 1 - 1 = (G : Int) by omega]
  have hs5 : Sh (sI (sI (sI (sI (sI σ (1 + 11 + 3 * G) 0 x1) (1 + 11 + 3 * G) 1 x2) (1 + 11 + 3 * G) 2 0) (1 + 11 + 3 * G) 3 (-5)) 1 6 ((G : Int) + 1)) := sh_I hs4 (by omega) (hs4.k (a := 1) rfl) (Or.inl (by decide))
  have hA : Agk (DPx (SQn G)) σ (sI (sI (sI (sI (sI σ (1 + 11 + 3 * G) 0 x1) (1 + 11 + 3 * G) 1 x2) (1 + 11 + 3 * G) 2 0) (1 + 11 + 3 * G) 3 (-5)) 1 6 ((G : Int) + 1)) := (((((Agk.rf hs).sI hs1 d0).sI hs2 d1).sI hs3 d2).sI hs4 d3).sI hs5 d5
  have hv : ∀ a k, vp a k → SQn G a k → (sI (sI (sI (sI (sI σ (1 + 11 + 3 * G) 0 x1) (1 + 11 + 3 * G) 1 x2) (1 + 11 + 3 * G) 2 0) (1 + 11 + 3 * G) 3 (-5)) 1 6 ((G : Int) + 1)).2.1 (1 + (px a k).1) (px a k).2 = nvQ G x1 x2 a := fun a k hp hq => by
    have hq2 : (a = 125 ∧ k = 6) ∨ (a = 131 ∧ k = G) ∨ (a = 132 ∧ k = G) ∨ (a = 133 ∧ k = G) ∨ (a = 134 ∧ k = G) := by unfold SQn at hq; omega
    rcases hq2 with ⟨rfl, rfl⟩ | ⟨rfl, rfl⟩ | ⟨rfl, rfl⟩ | ⟨rfl, rfl⟩ | ⟨rfl, rfl⟩
    · show (sI _ 1 6 ((G : Int) + 1)).2.1 1 6 = _
      rw [sI_at, if_pos ⟨rfl, rfl⟩]
      rfl
    · show (sI _ 1 6 ((k : Int) + 1)).2.1 (1 + (11 + 3 * k)) 0 = x1
      rw [← Nat.add_assoc, sI_at, if_neg (by omega), sI_at, if_neg (by omega), sI_at, if_neg (by omega), sI_at, if_neg (by omega), sI_at, if_pos ⟨rfl, rfl⟩]
    · show (sI _ 1 6 ((k : Int) + 1)).2.1 (1 + (11 + 3 * k)) 1 = x2
      rw [← Nat.add_assoc, sI_at, if_neg (by omega), sI_at, if_neg (by omega), sI_at, if_neg (by omega), sI_at, if_pos ⟨rfl, rfl⟩]
    · show (sI _ 1 6 ((k : Int) + 1)).2.1 (1 + (11 + 3 * k)) 2 = 0
      rw [← Nat.add_assoc, sI_at, if_neg (by omega), sI_at, if_neg (by omega), sI_at, if_pos ⟨rfl, rfl⟩]
    · show (sI _ 1 6 ((k : Int) + 1)).2.1 (1 + (11 + 3 * k)) 3 = -5
      rw [← Nat.add_assoc, sI_at, if_neg (by omega), sI_at, if_pos ⟨rfl, rfl⟩]
  revert hA hv hs5
  generalize sI (sI (sI (sI (sI σ (1 + 11 + 3 * G) 0 x1) (1 + 11 + 3 * G) 1 x2) (1 + 11 + 3 * G) 2 0) (1 + 11 + 3 * G) 3 (-5)) 1 6 ((G : Int) + 1) = σ1
  intro hs5 hA hv
  refine ⟨by omega, _, rfl, hs5, _, rfl, hs5, by omega, ?_⟩
  have nA : ∀ a k, 125 ≤ a → σ1.2.1 a k = σ.2.1 a k := fun a k ha => hA.2.2 a k (fun q => by have := DPx_27 q; omega)
  refine C_X11_question hs5 (c_areMatters hs5 h1 ⟨_, rfl, hs5, fun k => absurd g1 (of_decide_eq_false k), fun _ => c_within hs5 h2 (by decide) (by decide) ⟨_, rfl, hs5, fun k => absurd g2 (of_decide_eq_false k), fun _ => ?_⟩⟩)
  have e0 : σ1.2.1 125 6 = (G : Int) := by rw [nA 125 6 (by decide), hG]
  rw [e0, show ((G : Int)).toNat = G by omega]
  have e1 : (sI σ1 131 G x1).2.1 125 6 = (G : Int) := by rw [sI_at, if_neg (by omega), e0]
  rw [e1, show ((G : Int)).toNat = G by omega]
  have e2 : (sI (sI σ1 131 G x1) 132 G x2).2.1 125 6 = (G : Int) := by rw [sI_at, if_neg (by omega), e1]
  rw [e2, show ((G : Int)).toNat = G by omega]
  have e3 : (sI (sI (sI σ1 131 G x1) 132 G x2) 133 G 0).2.1 125 6 = (G : Int) := by rw [sI_at, if_neg (by omega), e2]
  rw [e3, show ((G : Int)).toNat = G by omega]
  have e4 : (sI (sI (sI (sI σ1 131 G x1) 132 G x2) 133 G 0) 134 G (-5)).2.1 125 6 = (G : Int) := by rw [sI_at, if_neg (by omega), e3]
  rw [e4]
  have t1 : Sh (sI σ1 131 G x1) := sh_I hs5 h1 (hs5.k (a := 131) rfl) (Or.inl (by decide))
  have t2 : Sh (sI (sI σ1 131 G x1) 132 G x2) := sh_I t1 h2 (t1.k (a := 132) rfl) (Or.inl (by decide))
  have t3 : Sh (sI (sI (sI σ1 131 G x1) 132 G x2) 133 G 0) := sh_I t2 (by decide) (t2.k (a := 133) rfl) (Or.inl (by decide))
  have t4 : Sh (sI (sI (sI (sI σ1 131 G x1) 132 G x2) 133 G 0) 134 G (-5)) := sh_I t3 (by decide) (t3.k (a := 134) rfl) (Or.inl (by decide))
  have t5 : Sh (sI (sI (sI (sI (sI σ1 131 G x1) 132 G x2) 133 G 0) 134 G (-5)) 125 6 ((G : Int) + 1)) := sh_I t4 (by omega) (t4.k (a := 125) rfl) (Or.inl (by decide))
  have hB : Agk (DPm (SQn G)) σ1 (sI (sI (sI (sI (sI σ1 131 G x1) 132 G x2) 133 G 0) 134 G (-5)) 125 6 ((G : Int) + 1)) := (((((Agk.rf hs5).sI t1 ⟨by unfold vp; omega, by unfold SQn; omega⟩).sI t2 ⟨by unfold vp; omega, by unfold SQn; omega⟩).sI t3 ⟨by unfold vp; omega, by unfold SQn; omega⟩).sI t4 ⟨by unfold vp; omega, by unfold SQn; omega⟩).sI t5 ⟨by unfold vp; omega, by unfold SQn; omega⟩
  have hv6 : ∀ a k, vp a k → SQn G a k → (sI (sI (sI (sI (sI σ1 131 G x1) 132 G x2) 133 G 0) 134 G (-5)) 125 6 ((G : Int) + 1)).2.1 a k = nvQ G x1 x2 a := fun a k hp hq => by
    have hq2 : (a = 125 ∧ k = 6) ∨ (a = 131 ∧ k = G) ∨ (a = 132 ∧ k = G) ∨ (a = 133 ∧ k = G) ∨ (a = 134 ∧ k = G) := by unfold SQn at hq; omega
    rcases hq2 with ⟨rfl, rfl⟩ | ⟨rfl, rfl⟩ | ⟨rfl, rfl⟩ | ⟨rfl, rfl⟩ | ⟨rfl, rfl⟩
    · rw [sI_at, if_pos ⟨rfl, rfl⟩]
      rfl
    · rw [sI_at, if_neg (by omega), sI_at, if_neg (by omega), sI_at, if_neg (by omega), sI_at, if_neg (by omega), sI_at, if_pos ⟨rfl, rfl⟩]
      rfl
    · rw [sI_at, if_neg (by omega), sI_at, if_neg (by omega), sI_at, if_neg (by omega), sI_at, if_pos ⟨rfl, rfl⟩]
      rfl
    · rw [sI_at, if_neg (by omega), sI_at, if_neg (by omega), sI_at, if_pos ⟨rfl, rfl⟩]
      rfl
    · rw [sI_at, if_neg (by omega), sI_at, if_pos ⟨rfl, rfl⟩]
      rfl
  refine ⟨fun _ => ⟨by omega, by omega, h1, by omega, by omega, h2, by omega, by omega, by omega, by omega, by omega, rfl, ?_⟩, fun h => absurd h (by omega)⟩
  refine hi.setPl (SQn G) hA hB (fun k q => by unfold SQn at q; omega) (fun a k hp hq => (hv a k hp hq).trans (hv6 a k hp hq).symm) ?_ ?_
  · refine hi.2.1.2.1.moreQn hG hG5 g1 g2 hv6 (fun a k hf hns => ?_)
    rw [hB.2.2 a k (fun q => hns q.2)]
    exact nA a k (by unfold FYm at hf; omega)
  · rw [hB.2.2 125 11 (fun q => by have := q.2; unfold SQn at this; omega), nA 125 11 (by decide)]
    exact hi.2.1.2.2
end QUESTOP
