/-! BORDER, 18: both sides -/
def DKb (nb : Nat) : Nat → Nat → Prop := fun a k => DTx (85 + 3 * nb) a k ∨ (a = 83 ∧ k = 1) ∨ (a = 1 ∧ k = 8)
section BORDOP
variable {X : mX} {σ : mS}
theorem op_border (hi : Inv σ) : BothI X 60 MX10_border MX11_border [] σ Inv := by
  have hs := hi.1
  obtain ⟨⟨b1, b1'⟩, b2, ⟨b3, b3'⟩, b4⟩ := hi.2.2.2.1
  obtain ⟨⟨d1, d1'⟩, d2, d3⟩ := hi.2.2.2.2.1
  obtain ⟨nb, hnb⟩ : ∃ nb : Nat, σ.2.1 125 18 = nb := ⟨(σ.2.1 125 18).toNat, by omega⟩
  obtain ⟨c00, hc00⟩ : ∃ c : Nat, σ.2.1 125 26 = c := ⟨(σ.2.1 125 26).toNat, by omega⟩
  obtain ⟨n, hn⟩ : ∃ n : Nat, σ.2.1 125 12 = n := ⟨(σ.2.1 125 12).toNat, by omega⟩
  have h83 : σ.2.1 83 1 = nb := by omega
  refine C_X10_border (d := 59) hs (C_X7_spareBorder hs ⟨fun q => ⟨by omega, ?_⟩, fun q => ⟨none, rfl, hs, fun _ => ⟨_, rfl, hs, by decide, C_X11_border (d := 59) hs ⟨fun r => absurd r (by omega), fun _ => ⟨rfl, hi⟩⟩⟩, fun a6 e => nomatch e⟩⟩)
  rw [h83, Int.toNat_natCast]
  have hbb : isB (85 + 3 * nb) := ⟨nb, by omega, rfl⟩
  refine ⟨some (85 + 3 * nb), rfl, hs, (fun q => nomatch q), fun a6 e => ?_⟩
  cases e
  have rx : ∀ {σ1 : mS} {D : Nat → Nat → Prop}, Agk D σ σ1 → (∀ a k, D a k → a < 125) → Sh σ1 ∧ σ1.2.1 125 12 = n ∧ (∀ i, i < n → σ1.2.1 135 i = σ.2.1 135 i) ∧ σ1.2.1 125 18 = nb ∧ σ1.2.1 125 26 = c00 := by
    intro σ1 D hA hD
    have nd : ∀ a k, 125 ≤ a → σ1.2.1 a k = σ.2.1 a k := fun a k h => hA.2.2 a k (fun q => absurd (hD a k q) (by omega))
    exact ⟨hA.1, by rw [nd _ _ (by decide)]; exact hn, fun i _ => nd _ _ (by decide), by rw [nd _ _ (by decide)]; exact hnb, by rw [nd _ _ (by decide)]; exact hc00⟩
  refine ⟨hbb, x_into (d := 34) (T := σ.2.1 135) (n := n) hs hbb (by omega) (by omega) (fun i h => (d3 i (by omega)).1) (fun i h => (d3 i (by omega)).2) (fun u σ1 g1 g2 g3 => ⟨-1, rfl, g1.1, by decide, fun _ => ?_, fun q => absurd q (by decide)⟩) (fun u hat σ1 g1 g2 => ⟨_, rfl, g1.1, by omega, fun q => absurd q (by omega), fun _ => ?_⟩)⟩
  · obtain ⟨hl, hok⟩ := pCs_ok (T := σ.2.1 135) (n := n) (by omega) 10 0 u
    have s1 : Sh (sI σ1 1 8 (nb : Int)) := sh_I g1.1 (by omega) (g1.1.k (a := 1) rfl) (Or.inl (by decide))
    have e83 : (sI σ1 1 8 (nb : Int)).2.1 83 1 = nb := by rw [sI_at, if_neg (by omega), g1.2.2 83 1 (by unfold DTx; omega)]; exact h83
    have s2 : Sh (sI (sI σ1 1 8 (nb : Int)) 83 1 ((nb : Int) + 1)) := sh_I s1 (by omega) (s1.k (a := 83) rfl) (Or.inl (by decide))
    have e1 : (sI (sI σ1 1 8 (nb : Int)) 83 1 ((nb : Int) + 1)).2.1 83 1 - 1 = nb := by rw [sI_at, if_pos ⟨rfl, rfl⟩]; omega
    have ef : ∀ b j, (sI (sI σ1 1 8 (nb : Int)) 83 1 ((nb : Int) + 1)).2.1 b j = if b = 83 ∧ j = 1 then (nb : Int) + 1 else if b = 1 ∧ j = 8 then (nb : Int) else σ1.2.1 b j := fun _ _ => rfl
    have A0 : Agk (DKb nb) σ σ1 := g1.mono (fun _ _ h => Or.inl h)
    have A : Agk (DKb nb) σ (sI (sI σ1 1 8 (nb : Int)) 83 1 ((nb : Int) + 1)) := (A0.sI s1 (Or.inr (Or.inr ⟨rfl, rfl⟩))).sI s2 (Or.inr (Or.inl ⟨rfl, rfl⟩))
    have hz : (some (85 + 3 * nb) : Option Nat) = hB (nb : Int) := by
      unfold hB
      rw [if_neg (by omega), Int.toNat_natCast]
    refine ⟨(nb : Int), hz, by omega, C_X7_keepSpare s1 ?_⟩
    rw [e83, e1]
    refine ⟨by omega, _, rfl, s2, _, rfl, s2, by omega, ?_⟩
    obtain ⟨r1, r2, r3, r4, r5⟩ := rx A (fun a k h => by unfold DKb DTx at h; omega)
    refine m_border (d := 37) (T := σ.2.1 135) (n := n) r1 (by omega) r2 r3 (fun i h => (d3 i (by omega)).2) (by omega) r4 r5 (by omega) (fun _ σ2 c1 t1 t2 t3 t4 t5 t6 t7 t8 t9 => ⟨rfl, ?_⟩) (fun v => by rw [u] at v; cases v)
    have B : Agk (DYb nb c00) σ σ2 := A.tr t1 (fun a k h => by rcases h with h | h | h; exact Or.inl h; exact Or.inr (Or.inl h); exact Or.inr (Or.inr (Or.inl h))) (fun a k h => Or.inr (Or.inr (Or.inr h)))
    have lo : ∀ b j, b < 125 → σ2.2.1 b j = if b = 83 ∧ j = 1 then (nb : Int) + 1 else if b = 1 ∧ j = 8 then (nb : Int) else σ1.2.1 b j := fun b j h => by rw [t1.2.2 b j (by unfold DSm; omega), ef]
    refine hi.oneBorder (B := (pCs (σ.2.1 135) n 10 0).2.2) (by omega) hnb hc00 B ?_ t2 ?_ ?_ t3 t4 t5 t6 t7 hl hok ⟨t8, t9⟩ ?_
    · rw [lo _ _ (by decide), if_neg (by omega), if_neg (by omega)]; exact g2
    · rw [lo _ _ (by decide), if_pos ⟨rfl, rfl⟩]
    · rw [lo _ _ (by decide), if_neg (by omega), if_pos ⟨rfl, rfl⟩]
    · have lb : ∀ b j, 85 + 3 * nb ≤ b → b ≤ 85 + 3 * nb + 1 → σ2.2.1 b j = σ1.2.1 b j := fun b j h1 h2 => by rw [lo _ _ (by omega), if_neg (by omega), if_neg (by omega)]
      obtain ⟨k1, k2, k3, k4⟩ := g3
      refine ⟨?_, ?_, k3, fun j hj => ?_⟩
      · rw [lb _ _ (by omega) (by omega)]; exact k1
      · rw [lb _ _ (by omega) (by omega)]; exact k2
      · rw [lb _ _ (by omega) (by omega)]; exact k4 j hj
  · obtain ⟨r1, r2, r3, r4, r5⟩ := rx g1 (fun a k h => by unfold DTx at h; omega)
    refine ⟨_, rfl, r1, by omega, m_border (d := 37) (T := σ.2.1 135) (n := n) r1 (by omega) r2 r3 (fun i h => (d3 i (by omega)).2) (by omega) r4 r5 (by omega) (fun v => by rw [u] at v; cases v) (fun _ σ2 t1 t2 t3 => ⟨rfl, ?_⟩)⟩
    have B : Agk (DNb nb c00) σ σ2 := g1.tr t1 (fun a k h => Or.inl h) (fun a k h => Or.inr h)
    exact hi.noBorder (by omega) hnb hc00 B (by rw [t1.2.2 _ _ (by unfold DGm; omega)]; exact g2) t2 t3
end BORDOP
