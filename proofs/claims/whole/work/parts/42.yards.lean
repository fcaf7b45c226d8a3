/-! places of a yard, the class's beside the reference's -/
def px (a k : Nat) : Nat × Nat :=
  if a = 125 then (if k = 0 then (0, 5) else if k = 6 then (0, 6) else if k = 11 then (0, 7) else if k = 19 then (0, 8) else if k = 28 then (3, 2) else if k = 32 then (5, 2) else (7, 2))
  else if a = 126 then (9 + 3 * k, 0) else if a = 127 then (9 + 3 * k, 1) else if a = 128 then (9 + 3 * k, 2) else if a = 129 then (9 + 3 * k, 3)
  else if a = 130 then (10 + 3 * (k / 4), k % 4) else if a = 131 then (11 + 3 * k, 0) else if a = 132 then (11 + 3 * k, 1) else if a = 133 then (11 + 3 * k, 2) else if a = 134 then (11 + 3 * k, 3)
  else if a = 143 then (4, 3 * k) else if a = 144 then (4, 3 * k + 1) else if a = 145 then (4, 3 * k + 2) else if a = 146 then (6, 3 * k) else if a = 147 then (6, 3 * k + 1) else if a = 148 then (8, 3 * k) else (8, 3 * k + 1)
def ip (o j : Nat) : Nat × Nat :=
  if o = 0 then (125, if j = 5 then 0 else if j = 6 then 6 else if j = 7 then 11 else 19) else if o = 3 then (125, 28) else if o = 5 then (125, 32) else if o = 7 then (125, 35)
  else if o = 4 then (143 + j % 3, j / 3) else if o = 6 then (146 + j % 3, j / 3) else if o = 8 then (148 + j % 3, j / 3)
  else if (o - 9) % 3 = 0 then (126 + j, (o - 9) / 3) else if (o - 9) % 3 = 1 then (130, 4 * ((o - 9) / 3) + j) else (131 + j, (o - 9) / 3)
def vp (a k : Nat) : Prop :=
  (a = 125 ∧ (k = 0 ∨ k = 6 ∨ k = 11 ∨ k = 19 ∨ k = 28 ∨ k = 32 ∨ k = 35)) ∨ ((a = 126 ∨ a = 127 ∨ a = 128 ∨ a = 129 ∨ a = 131 ∨ a = 132 ∨ a = 133 ∨ a = 134) ∧ k < 6) ∨ (a = 130 ∧ k < 24) ∨ ((a = 143 ∨ a = 144 ∨ a = 145) ∧ k < 5) ∨ ((a = 146 ∨ a = 147) ∧ k < 10) ∨ ((a = 148 ∨ a = 149) ∧ k < 8)
theorem ip9 (k j : Nat) : ip (9 + 3 * k) j = (126 + j, k) := by
  unfold ip
  rw [if_neg (show ¬ 9 + 3 * k = 0 by omega), if_neg (show ¬ 9 + 3 * k = 3 by omega), if_neg (show ¬ 9 + 3 * k = 5 by omega), if_neg (show ¬ 9 + 3 * k = 7 by omega), if_neg (show ¬ 9 + 3 * k = 4 by omega), if_neg (show ¬ 9 + 3 * k = 6 by omega), if_neg (show ¬ 9 + 3 * k = 8 by omega), if_pos (show (9 + 3 * k - 9) % 3 = 0 by omega), show (9 + 3 * k - 9) / 3 = k by omega]
theorem ip10 (k j : Nat) : ip (10 + 3 * k) j = (130, 4 * k + j) := by
  unfold ip
  rw [if_neg (show ¬ 10 + 3 * k = 0 by omega), if_neg (show ¬ 10 + 3 * k = 3 by omega), if_neg (show ¬ 10 + 3 * k = 5 by omega), if_neg (show ¬ 10 + 3 * k = 7 by omega), if_neg (show ¬ 10 + 3 * k = 4 by omega), if_neg (show ¬ 10 + 3 * k = 6 by omega), if_neg (show ¬ 10 + 3 * k = 8 by omega), if_neg (show ¬ (10 + 3 * k - 9) % 3 = 0 by omega), if_pos (show (10 + 3 * k - 9) % 3 = 1 by omega), show (10 + 3 * k - 9) / 3 = k by omega]
theorem ip11 (k j : Nat) : ip (11 + 3 * k) j = (131 + j, k) := by
  unfold ip
  rw [if_neg (show ¬ 11 + 3 * k = 0 by omega), if_neg (show ¬ 11 + 3 * k = 3 by omega), if_neg (show ¬ 11 + 3 * k = 5 by omega), if_neg (show ¬ 11 + 3 * k = 7 by omega), if_neg (show ¬ 11 + 3 * k = 4 by omega), if_neg (show ¬ 11 + 3 * k = 6 by omega), if_neg (show ¬ 11 + 3 * k = 8 by omega), if_neg (show ¬ (11 + 3 * k - 9) % 3 = 0 by omega), if_neg (show ¬ (11 + 3 * k - 9) % 3 = 1 by omega), show (11 + 3 * k - 9) / 3 = k by omega]
theorem ipr (a k c : Nat) (hc : c < 3) : (a + (3 * k + c) % 3, (3 * k + c) / 3) = (a + c, k) := by
  rw [show (3 * k + c) % 3 = c by omega, show (3 * k + c) / 3 = k by omega]
theorem ip_px {a k : Nat} (h : vp a k) : ip (px a k).1 (px a k).2 = (a, k) := by
  rcases h with ⟨rfl, rfl | rfl | rfl | rfl | rfl | rfl | rfl⟩ | ⟨rfl | rfl | rfl | rfl | rfl | rfl | rfl | rfl, hk⟩ | ⟨rfl, hk⟩ | ⟨rfl | rfl | rfl, hk⟩ | ⟨rfl | rfl, hk⟩ | ⟨rfl | rfl, hk⟩
  · rfl
  · rfl
  · rfl
  · rfl
  · rfl
  · rfl
  · rfl
  · exact ip9 k 0
  · exact ip9 k 1
  · exact ip9 k 2
  · exact ip9 k 3
  · exact ip11 k 0
  · exact ip11 k 1
  · exact ip11 k 2
  · exact ip11 k 3
  · exact (ip10 (k / 4) (k % 4)).trans (by rw [show 4 * (k / 4) + k % 4 = k by omega])
  · exact ipr 143 k 0 (by decide)
  · exact ipr 143 k 1 (by decide)
  · exact ipr 143 k 2 (by decide)
  · exact ipr 146 k 0 (by decide)
  · exact ipr 146 k 1 (by decide)
  · exact ipr 148 k 0 (by decide)
  · exact ipr 148 k 1 (by decide)
theorem px_inj {a k a' k' : Nat} (h : vp a k) (h' : vp a' k') (e : px a k = px a' k') : a = a' ∧ k = k' := by
  have h1 := ip_px h
  have h2 := ip_px h'
  rw [e, h2] at h1
  exact ⟨(Prod.mk.inj h1).1.symm, (Prod.mk.inj h1).2.symm⟩
def YRp (σ : mS) (y : Nat) (Y : mY) : Prop := ∀ a k, vp a k → (a = 147 → Y 146 k ≠ 0) → σ.2.1 (y + (px a k).1) (px a k).2 = Y a k
theorem YR.p {σ : mS} {y : Nat} {Y : mY} (h : YR σ y Y) : YRp σ y Y := by
  obtain ⟨⟨a1, a2, a3, a4⟩, b, c, ⟨d1, d2⟩, ⟨e1, e2⟩, ⟨f1, f2⟩⟩ := h
  intro a k hv hz
  rcases hv with ⟨rfl, rfl | rfl | rfl | rfl | rfl | rfl | rfl⟩ | ⟨rfl | rfl | rfl | rfl | rfl | rfl | rfl | rfl, hk⟩ | ⟨rfl, hk⟩ | ⟨rfl | rfl | rfl, hk⟩ | ⟨rfl | rfl, hk⟩ | ⟨rfl | rfl, hk⟩
  · exact a1
  · exact a2
  · exact a3
  · exact a4
  · exact d1
  · exact e1
  · exact f1
  · rw [← (b k hk).1]; show σ.2.1 (y + (9 + 3 * k)) 0 = _; rw [Nat.add_assoc]
  · rw [← (b k hk).2.1]; show σ.2.1 (y + (9 + 3 * k)) 1 = _; rw [Nat.add_assoc]
  · rw [← (b k hk).2.2.1]; show σ.2.1 (y + (9 + 3 * k)) 2 = _; rw [Nat.add_assoc]
  · rw [← (b k hk).2.2.2.1]; show σ.2.1 (y + (9 + 3 * k)) 3 = _; rw [Nat.add_assoc]
  · rw [← (c k hk).1]; show σ.2.1 (y + (11 + 3 * k)) 0 = _; rw [Nat.add_assoc]
  · rw [← (c k hk).2.1]; show σ.2.1 (y + (11 + 3 * k)) 1 = _; rw [Nat.add_assoc]
  · rw [← (c k hk).2.2.1]; show σ.2.1 (y + (11 + 3 * k)) 2 = _; rw [Nat.add_assoc]
  · rw [← (c k hk).2.2.2]; show σ.2.1 (y + (11 + 3 * k)) 3 = _; rw [Nat.add_assoc]
  · have := (b (k / 4) (by omega)).2.2.2.2 (k % 4) (by omega)
    rw [show 4 * (k / 4) + k % 4 = k by omega] at this
    rw [← this]
    show σ.2.1 (y + (10 + 3 * (k / 4))) (k % 4) = _
    rw [show y + (10 + 3 * (k / 4)) = y + 9 + 3 * (k / 4) + 1 by omega]
  · exact (d2 k hk).1
  · exact (d2 k hk).2.1
  · exact (d2 k hk).2.2
  · exact (e2 k hk).1
  · exact (e2 k hk).2.resolve_left (hz rfl)
  · exact (f2 k hk).1
  · exact (f2 k hk).2
theorem YRp.r {σ : mS} {y : Nat} {Y : mY} (h : YRp σ y Y) : YR σ y Y := by
  have g : ∀ a k, vp a k → a ≠ 147 → σ.2.1 (y + (px a k).1) (px a k).2 = Y a k := fun a k hv ha => h a k hv (fun e => absurd e ha)
  unfold vp at g
  refine ⟨⟨g 125 0 (by omega) (by decide), g 125 6 (by omega) (by decide), g 125 11 (by omega) (by decide), g 125 19 (by omega) (by decide)⟩, fun p hp => ⟨?_, ?_, ?_, ?_, fun j hj => ?_⟩, fun q hq => ⟨?_, ?_, ?_, ?_⟩, ⟨g 125 28 (by omega) (by decide), fun i hi => ⟨g 143 i (by omega) (by decide), g 144 i (by omega) (by decide), g 145 i (by omega) (by decide)⟩⟩, ⟨g 125 32 (by omega) (by decide), fun i hi => ⟨g 146 i (by omega) (by decide), ?_⟩⟩, ⟨g 125 35 (by omega) (by decide), fun i hi => ⟨g 148 i (by omega) (by decide), g 149 i (by omega) (by decide)⟩⟩⟩
  · rw [Nat.add_assoc]; exact g 126 p (by omega) (by decide)
  · rw [Nat.add_assoc]; exact g 127 p (by omega) (by decide)
  · rw [Nat.add_assoc]; exact g 128 p (by omega) (by decide)
  · rw [Nat.add_assoc]; exact g 129 p (by omega) (by decide)
  · have := g 130 (4 * p + j) (by omega) (by decide)
    rw [← this]
    show _ = σ.2.1 (y + (10 + 3 * ((4 * p + j) / 4))) ((4 * p + j) % 4)
    rw [show y + (10 + 3 * ((4 * p + j) / 4)) = y + 9 + 3 * p + 1 by omega, show (4 * p + j) % 4 = j by omega]
  · rw [Nat.add_assoc]; exact g 131 q (by omega) (by decide)
  · rw [Nat.add_assoc]; exact g 132 q (by omega) (by decide)
  · rw [Nat.add_assoc]; exact g 133 q (by omega) (by decide)
  · rw [Nat.add_assoc]; exact g 134 q (by omega) (by decide)
  · by_cases hz : Y 146 i = 0
    · exact Or.inl hz
    · exact Or.inr (h 147 i (by unfold vp; omega) (fun _ => hz))
theorem px_F {a k : Nat} (h : vp a k) (y : Nat) : FYx y (y + (px a k).1) (px a k).2 := by
  unfold FYx
  rcases h with ⟨rfl, rfl | rfl | rfl | rfl | rfl | rfl | rfl⟩ | ⟨rfl | rfl | rfl | rfl | rfl | rfl | rfl | rfl, hk⟩ | ⟨rfl, hk⟩ | ⟨rfl | rfl | rfl, hk⟩ | ⟨rfl | rfl, hk⟩ | ⟨rfl | rfl, hk⟩
  all_goals simp only [px]
  all_goals simp
  all_goals omega
theorem vp_F {a k : Nat} (h : vp a k) : FYm a k := by
  unfold vp at h
  unfold FYm
  omega
/-- when the places of S are changed on both sides -/
theorem YR.sets {σ σ' : mS} {y : Nat} {Y Y' : mY} (S : Nat → Nat → Prop) (h : YR σ y Y) (hv : ∀ a k, S a k → vp a k) (h160 : ∀ k, S 146 k → S 147 k) (hS : ∀ a k, S a k → σ'.2.1 (y + (px a k).1) (px a k).2 = Y' a k) (hx : ∀ a k, FYx y a k → (∀ b j, S b j → ¬ (a = y + (px b j).1 ∧ k = (px b j).2)) → σ'.2.1 a k = σ.2.1 a k) (hm : ∀ a k, vp a k → ¬ S a k → Y' a k = Y a k) : YR σ' y Y' := by
  refine YRp.r (fun a k hp hz => ?_)
  by_cases hs : S a k
  · exact hS a k hs
  · rw [hm a k hp hs, ← h.p a k hp (fun e => ?_)]
    · refine hx _ _ (px_F hp y) (fun b j hb e => hs ?_)
      obtain ⟨rfl, rfl⟩ := px_inj hp (hv b j hb) (Prod.ext (by omega) e.2)
      exact hb
    · subst e
      rw [← hm 146 k (by unfold vp at hp ⊢; omega) (fun q => hs (h160 k q))]
      exact hz rfl
