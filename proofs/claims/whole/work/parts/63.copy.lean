/-! the given one copies a yard -/
section COPYS
variable {X : mX} {d : Nat} {σ : mS} {Q : Option mV → mS → Prop} {Y : mY}
def CPs (y0 y1 : Nat) (σ0 : mS) (S : Nat → Nat → Prop) (σ' : mS) : Prop := (isY y0 ∧ isY y1 ∧ y0 ≠ y1) ∧ Agk (FYx y0) σ0 σ' ∧ ∀ o j, S o j → σ'.2.1 (y0 + o) j = σ0.2.1 (y1 + o) j
theorem FYx_not {y0 y1 o j : Nat} (h : isY y0 ∧ isY y1 ∧ y0 ≠ y1) (ho : o ≤ 26) : ¬ FYx y0 (y1 + o) j := by
  obtain ⟨h1, h2, h3⟩ := h
  unfold FYx
  rcases h1 with rfl | rfl | rfl <;> rcases h2 with rfl | rfl | rfl <;> omega
theorem CPs.st {y0 y1 : Nat} {σ0 σ' : mS} {S : Nat → Nat → Prop} {o j b c : Nat} {kd : Nat × Nat} (h : CPs y0 y1 σ0 S σ') (hb : b = y0 + o) (hc : c = y1 + o) (ho : o ≤ 26) (hF : o = 0 → 5 ≤ j ∧ j ≤ 8) (hk : SHL[b]? = some kd) (h6 : kd.1 ≠ 6 ∨ j ≠ 1) : CPs y0 y1 σ0 (SU S o j) (sI σ' b j (σ'.2.1 c j)) := by
  obtain ⟨hy, hA, hS⟩ := h
  subst hb
  subst hc
  have hs1 : Sh (sI σ' (y0 + o) j (σ'.2.1 (y1 + o) j)) := sh_I hA.1 (hA.1.2.2.1 _ _) (hA.1.k hk) h6
  refine ⟨hy, hA.sI hs1 (by unfold FYx; omega), fun o' j' hq => ?_⟩
  rw [sI_at]
  by_cases hz : o' = o ∧ j' = j
  · rw [hz.1, hz.2, if_pos ⟨rfl, rfl⟩]
    exact hA.2.2 _ _ (FYx_not hy ho)
  · rw [if_neg (by omega)]
    rcases hq with hq | hq
    · exact hS o' j' hq
    · exact absurd hq hz
theorem CPs.cp {y0 y1 : Nat} {σ0 σ' : mS} {S : Nat → Nat → Prop} {o n b c m : Nat} (h : CPs y0 y1 σ0 S σ') (hb : b = y0 + o) (hc : c = y1 + o) (ho : 1 ≤ o ∧ o ≤ 26) (hk : SHL[b]? = some (50, m)) : CPs y0 y1 σ0 (fun a k => S a k ∨ (a = o ∧ k < n)) (mCpI σ' c 0 b 0 n) := by
  obtain ⟨hy, hA, hS⟩ := h
  subst hb
  subst hc
  have hs1 : Sh (mCpI σ' (y1 + o) 0 (y0 + o) 0 n) := sh_cpI hA.1 (hA.1.k hk)
  have hat : ∀ a k, (mCpI σ' (y1 + o) 0 (y0 + o) 0 n).2.1 a k = if a = y0 + o ∧ 0 ≤ k ∧ k < 0 + n then σ'.2.1 (y1 + o) (0 + (k - 0)) else σ'.2.1 a k := fun _ _ => rfl
  refine ⟨hy, ⟨hs1, hA.2.1, fun a k hn => ?_⟩, fun o' j' hq => ?_⟩
  · rw [hat, if_neg]
    · exact hA.2.2 a k hn
    · rintro ⟨rfl, -⟩
      exact hn (by unfold FYx; omega)
  · rw [hat]
    by_cases hz : o' = o ∧ j' < n
    · rw [if_pos (by omega), show 0 + (j' - 0) = j' by omega, hz.1]
      exact hA.2.2 _ _ (FYx_not hy ho.2)
    · rw [if_neg (by omega)]
      rcases hq with hq | hq
      · exact hS o' j' hq
      · exact absurd hq hz
theorem CPs.mono {y0 y1 : Nat} {σ0 σ' : mS} {S S' : Nat → Nat → Prop} (h : CPs y0 y1 σ0 S σ') (hS : ∀ a k, S' a k → S a k) : CPs y0 y1 σ0 S' σ' := ⟨h.1, h.2.1, fun a k hq => h.2.2 a k (hS a k hq)⟩
theorem c_copyG {y0 y1 : Nat} {σ0 : mS} {S : Nat → Nat → Prop} (h : CPs y0 y1 σ0 S σ) {i : Nat} (hi : i < 6) (hQ : ∀ σ', CPs y0 y1 σ0 (fun o j => S o j ∨ (9 + 3 * i ≤ o ∧ o ≤ 10 + 3 * i ∧ j < 4)) σ' → Q none σ') : CALL X (d + 1) (0, 0) MX3_copy [vP (some (y0 + 9 + 3 * i)), vP (some (y1 + 9 + 3 * i))] σ Q := by
  have t := tG y0 (isY_mem h.1.1) i hi
  refine C_X3_copy h.2.1.1 ⟨y0, i, h.1.1, hi, rfl⟩ ⟨y1, i, h.1.2.1, hi, rfl⟩ (hQ _ ?_)
  have k1 := h.st (o := 9 + 3 * i) (j := 0) (b := y0 + 9 + 3 * i) (c := y1 + 9 + 3 * i) (by omega) (by omega) (by omega) (by omega) t.1 (Or.inl (by decide))
  have k2 := k1.st (o := 9 + 3 * i) (j := 1) (b := y0 + 9 + 3 * i) (c := y1 + 9 + 3 * i) (by omega) (by omega) (by omega) (by omega) t.1 (Or.inl (by decide))
  have k3 := k2.st (o := 9 + 3 * i) (j := 2) (b := y0 + 9 + 3 * i) (c := y1 + 9 + 3 * i) (by omega) (by omega) (by omega) (by omega) t.1 (Or.inl (by decide))
  have k4 := k3.st (o := 9 + 3 * i) (j := 3) (b := y0 + 9 + 3 * i) (c := y1 + 9 + 3 * i) (by omega) (by omega) (by omega) (by omega) t.1 (Or.inl (by decide))
  have k5 := k4.cp (o := 10 + 3 * i) (n := 4) (b := y0 + 9 + 3 * i + 1) (c := y1 + 9 + 3 * i + 1) (by omega) (by omega) (by omega) t.2.1
  refine k5.mono (fun a k hq => ?_)
  rcases hq with hq | hq
  · exact Or.inl (Or.inl (Or.inl (Or.inl (Or.inl hq))))
  · have hz : (a = 10 + 3 * i ∧ k < 4) ∨ (a = 9 + 3 * i ∧ (k = 3 ∨ k = 2 ∨ k = 1 ∨ k = 0)) := by omega
    rcases hz with hz | ⟨hz, h1 | h1 | h1 | h1⟩
    · exact Or.inr hz
    · exact Or.inl (Or.inr ⟨hz, h1⟩)
    · exact Or.inl (Or.inl (Or.inr ⟨hz, h1⟩))
    · exact Or.inl (Or.inl (Or.inl (Or.inr ⟨hz, h1⟩)))
    · exact Or.inl (Or.inl (Or.inl (Or.inl (Or.inr ⟨hz, h1⟩))))
theorem c_copyQ {y0 y1 : Nat} {σ0 : mS} {S : Nat → Nat → Prop} (h : CPs y0 y1 σ0 S σ) {i : Nat} (hi : i < 6) (hQ : ∀ σ', CPs y0 y1 σ0 (fun o j => S o j ∨ (o = 11 + 3 * i ∧ j < 4)) σ' → Q none σ') : CALL X d (0, 0) MX4_copy [vP (some (y0 + 11 + 3 * i)), vP (some (y1 + 11 + 3 * i))] σ Q := by
  have t := tG y0 (isY_mem h.1.1) i hi
  refine C_X4_copy h.2.1.1 ⟨y0, i, h.1.1, hi, rfl⟩ ⟨y1, i, h.1.2.1, hi, rfl⟩ (hQ _ ?_)
  have k1 := h.st (o := 11 + 3 * i) (j := 0) (b := y0 + 11 + 3 * i) (c := y1 + 11 + 3 * i) (by omega) (by omega) (by omega) (by omega) t.2.2.1 (Or.inl (by decide))
  have k2 := k1.st (o := 11 + 3 * i) (j := 1) (b := y0 + 11 + 3 * i) (c := y1 + 11 + 3 * i) (by omega) (by omega) (by omega) (by omega) t.2.2.1 (Or.inl (by decide))
  have k3 := k2.st (o := 11 + 3 * i) (j := 2) (b := y0 + 11 + 3 * i) (c := y1 + 11 + 3 * i) (by omega) (by omega) (by omega) (by omega) t.2.2.1 (Or.inl (by decide))
  have k4 := k3.st (o := 11 + 3 * i) (j := 3) (b := y0 + 11 + 3 * i) (c := y1 + 11 + 3 * i) (by omega) (by omega) (by omega) (by omega) t.2.2.1 (Or.inl (by decide))
  refine k4.mono (fun a k hq => ?_)
  rcases hq with hq | hq
  · exact Or.inl (Or.inl (Or.inl (Or.inl hq)))
  · have hz : a = 11 + 3 * i ∧ (k = 3 ∨ k = 2 ∨ k = 1 ∨ k = 0) := by omega
    rcases hz with ⟨hz, h1 | h1 | h1 | h1⟩
    · exact Or.inr ⟨hz, h1⟩
    · exact Or.inl (Or.inr ⟨hz, h1⟩)
    · exact Or.inl (Or.inl (Or.inr ⟨hz, h1⟩))
    · exact Or.inl (Or.inl (Or.inl (Or.inr ⟨hz, h1⟩)))
theorem rM_y {y : Nat} (hy : isY y) : rM (y + 3) = 5 ∧ rM (y + 5) = 10 ∧ rM (y + 7) = 8 := by
  rcases hy with rfl | rfl | rfl <;> decide
theorem c_copyR {y0 y1 : Nat} {σ0 : mS} {S : Nat → Nat → Prop} (h : CPs y0 y1 σ0 S σ) {o n : Nat} (ho : o = 3 ∨ o = 5 ∨ o = 7) (hn0 : rM (y0 + o) = n) (hn1 : rM (y1 + o) = n) (hk : SHL[y0 + o]? = some (6, 0) ∧ SHL[y0 + o + 1]? = some (50, 3 * rM (y0 + o))) (hc : σ0.2.1 (y1 + o) 2 ≤ n) {S' : Nat → Nat → Prop} (hS' : ∀ a k, S' a k → S a k ∨ (a = o ∧ k = 2) ∨ (a = o + 1 ∧ k < 3 * n)) (hQ : ∀ σ', CPs y0 y1 σ0 S' σ' → Q none σ') : CALL X (d + 1) (0, 0) MX6_copy [vP (some (y0 + o)), vP (some (y1 + o))] σ Q := by
  have hy := h.1
  have hs := h.2.1.1
  have hr0 : isR (y0 + o) := ⟨y0, hy.1, by omega⟩
  have hr1 : isR (y1 + o) := ⟨y1, hy.2.1, by omega⟩
  have hM := rM_le (y0 + o)
  have hmost := hs.2.2.2.2 _ hr0
  have e1 : σ.2.1 (y1 + o) 2 = σ0.2.1 (y1 + o) 2 := h.2.1.2.2 _ _ (FYx_not hy (by omega))
  refine C_X6_copy hs hr0 hr1 ?_
  rw [hn0, hn1]
  refine ⟨by omega, by omega, by omega, by omega, by omega, hQ _ ?_⟩
  rw [hmost, hn0, show min (σ.2.1 (y1 + o) 2) ((n : Nat) : Int) = σ.2.1 (y1 + o) 2 by omega, show (min ((3 * n : Nat) : Int) ((3 * n : Nat) : Int)).toNat = 3 * n by omega]
  have k1 := h.st (o := o) (j := 2) (b := y0 + o) (c := y1 + o) rfl rfl (by omega) (by omega) hk.1 (Or.inr (by decide))
  have k2 := k1.cp (o := o + 1) (n := 3 * n) (b := y0 + o + 1) (c := y1 + o + 1) (by omega) (by omega) (by omega) hk.2
  refine k2.mono (fun a k hq => ?_)
  rcases hS' a k hq with hq | hq | hq
  · exact Or.inl (Or.inl hq)
  · exact Or.inl (Or.inr hq)
  · exact Or.inr hq
theorem px_S {a k : Nat} (h : vp a k) : ((px a k).1 = 0 ∧ 5 ≤ (px a k).2 ∧ (px a k).2 ≤ 8) ∨ (9 ≤ (px a k).1 ∧ (px a k).1 < 27 ∧ (px a k).2 < 4) ∨ ((px a k).1 = 3 ∧ (px a k).2 = 2) ∨ ((px a k).1 = 4 ∧ (px a k).2 < 15) ∨ ((px a k).1 = 5 ∧ (px a k).2 = 2) ∨ ((px a k).1 = 6 ∧ (px a k).2 < 30) ∨ ((px a k).1 = 7 ∧ (px a k).2 = 2) ∨ ((px a k).1 = 8 ∧ (px a k).2 < 24) := by
  rcases h with ⟨rfl, rfl | rfl | rfl | rfl | rfl | rfl | rfl⟩ | ⟨rfl | rfl | rfl | rfl | rfl | rfl | rfl | rfl, hk⟩ | ⟨rfl, hk⟩ | ⟨rfl | rfl | rfl, hk⟩ | ⟨rfl | rfl, hk⟩ | ⟨rfl | rfl, hk⟩
  all_goals simp only [px]
  all_goals simp
  all_goals omega
def SC (i : Nat) : Nat → Nat → Prop := fun o j => 9 ≤ o ∧ o < 9 + 3 * i ∧ j < 4
def SD (c : Nat) : Nat → Nat → Prop := fun o j => (o = 0 ∧ 5 ≤ j ∧ j ≤ 8) ∨ (9 ≤ o ∧ o < 27 ∧ j < 4) ∨ (1 ≤ c ∧ o = 3 ∧ j = 2) ∨ (1 ≤ c ∧ o = 4 ∧ j < 15) ∨ (2 ≤ c ∧ o = 5 ∧ j = 2) ∨ (2 ≤ c ∧ o = 6 ∧ j < 30) ∨ (3 ≤ c ∧ o = 7 ∧ j = 2) ∨ (3 ≤ c ∧ o = 8 ∧ j < 24)
theorem CPs.heads {y0 y1 : Nat} {σ0 : mS} (h : CPs y0 y1 σ0 (SC 6) σ) (ty : SHL[y0]? = some (9, 0)) : CPs y0 y1 σ0 (SD 0) (sI (sI (sI (sI σ y0 5 (σ.2.1 y1 5)) y0 6 ((sI σ y0 5 (σ.2.1 y1 5)).2.1 y1 6)) y0 7 ((sI (sI σ y0 5 (σ.2.1 y1 5)) y0 6 ((sI σ y0 5 (σ.2.1 y1 5)).2.1 y1 6)).2.1 y1 7)) y0 8 ((sI (sI (sI σ y0 5 (σ.2.1 y1 5)) y0 6 ((sI σ y0 5 (σ.2.1 y1 5)).2.1 y1 6)) y0 7 ((sI (sI σ y0 5 (σ.2.1 y1 5)) y0 6 ((sI σ y0 5 (σ.2.1 y1 5)).2.1 y1 6)).2.1 y1 7)).2.1 y1 8)) := by
  have k1 := h.st (o := 0) (j := 5) (b := y0) (c := y1) rfl rfl (by omega) (by omega) ty (Or.inl (by decide))
  have k2 := k1.st (o := 0) (j := 6) (b := y0) (c := y1) rfl rfl (by omega) (by omega) ty (Or.inl (by decide))
  have k3 := k2.st (o := 0) (j := 7) (b := y0) (c := y1) rfl rfl (by omega) (by omega) ty (Or.inl (by decide))
  have k4 := k3.st (o := 0) (j := 8) (b := y0) (c := y1) rfl rfl (by omega) (by omega) ty (Or.inl (by decide))
  refine k4.mono (fun a k hq => ?_)
  have hz : (9 ≤ a ∧ a < 9 + 3 * 6 ∧ k < 4) ∨ (a = 0 ∧ (k = 8 ∨ k = 7 ∨ k = 6 ∨ k = 5)) := by
    rcases hq with h | h | h | h | h | h | h | h
    · exact Or.inr ⟨h.1, by omega⟩
    · exact Or.inl h
    · exact absurd h.1 (by decide)
    · exact absurd h.1 (by decide)
    · exact absurd h.1 (by decide)
    · exact absurd h.1 (by decide)
    · exact absurd h.1 (by decide)
    · exact absurd h.1 (by decide)
  rcases hz with hz | ⟨hz, h1 | h1 | h1 | h1⟩
  · exact Or.inl (Or.inl (Or.inl (Or.inl hz)))
  · exact Or.inr ⟨hz, h1⟩
  · exact Or.inl (Or.inr ⟨hz, h1⟩)
  · exact Or.inl (Or.inl (Or.inr ⟨hz, h1⟩))
  · exact Or.inl (Or.inl (Or.inl (Or.inr ⟨hz, h1⟩)))
theorem sD1 (a k : Nat) (hq : SD 1 a k) : SD 0 a k ∨ (a = 3 ∧ k = 2) ∨ (a = 3 + 1 ∧ k < 3 * 5) := by
  rcases hq with h | h | h | h | h | h | h | h
  · exact Or.inl (Or.inl h)
  · exact Or.inl (Or.inr (Or.inl h))
  · exact Or.inr (Or.inl h.2)
  · exact Or.inr (Or.inr h.2)
  · exact absurd h.1 (by decide)
  · exact absurd h.1 (by decide)
  · exact absurd h.1 (by decide)
  · exact absurd h.1 (by decide)
theorem sD2 (a k : Nat) (hq : SD 2 a k) : SD 1 a k ∨ (a = 5 ∧ k = 2) ∨ (a = 5 + 1 ∧ k < 3 * 10) := by
  rcases hq with h | h | h | h | h | h | h | h
  · exact Or.inl (Or.inl h)
  · exact Or.inl (Or.inr (Or.inl h))
  · exact Or.inl (Or.inr (Or.inr (Or.inl ⟨by decide, h.2⟩)))
  · exact Or.inl (Or.inr (Or.inr (Or.inr (Or.inl ⟨by decide, h.2⟩))))
  · exact Or.inr (Or.inl h.2)
  · exact Or.inr (Or.inr h.2)
  · exact absurd h.1 (by decide)
  · exact absurd h.1 (by decide)
theorem sD3 (a k : Nat) (hq : SD 3 a k) : SD 2 a k ∨ (a = 7 ∧ k = 2) ∨ (a = 7 + 1 ∧ k < 3 * 8) := by
  rcases hq with h | h | h | h | h | h | h | h
  · exact Or.inl (Or.inl h)
  · exact Or.inl (Or.inr (Or.inl h))
  · exact Or.inl (Or.inr (Or.inr (Or.inl ⟨by decide, h.2⟩)))
  · exact Or.inl (Or.inr (Or.inr (Or.inr (Or.inl ⟨by decide, h.2⟩))))
  · exact Or.inl (Or.inr (Or.inr (Or.inr (Or.inr (Or.inl ⟨by decide, h.2⟩)))))
  · exact Or.inl (Or.inr (Or.inr (Or.inr (Or.inr (Or.inr (Or.inl ⟨by decide, h.2⟩))))))
  · exact Or.inr (Or.inl h.2)
  · exact Or.inr (Or.inr h.2)
theorem px_D {a k : Nat} (h : vp a k) : SD 3 (px a k).1 (px a k).2 := by
  rcases px_S h with h | h | h | h | h | h | h | h
  · exact Or.inl h
  · exact Or.inr (Or.inl h)
  · exact Or.inr (Or.inr (Or.inl ⟨by decide, h⟩))
  · exact Or.inr (Or.inr (Or.inr (Or.inl ⟨by decide, h⟩)))
  · exact Or.inr (Or.inr (Or.inr (Or.inr (Or.inl ⟨by decide, h⟩))))
  · exact Or.inr (Or.inr (Or.inr (Or.inr (Or.inr (Or.inl ⟨by decide, h⟩)))))
  · exact Or.inr (Or.inr (Or.inr (Or.inr (Or.inr (Or.inr (Or.inl ⟨by decide, h⟩))))))
  · exact Or.inr (Or.inr (Or.inr (Or.inr (Or.inr (Or.inr (Or.inr (⟨by decide, h⟩)))))))
theorem c_copyL {y0 y1 : Nat} {σ0 : mS} {nb : Int} (hY : YR σ0 y1 Y) (hW : WFY nb Y) (hQ : ∀ σ', Agk (FYx y0) σ0 σ' → YR σ' y0 Y → Q none σ') : ∀ (m i : Nat) (σ : mS), i + m = 6 → CPs y0 y1 σ0 (SC i) σ → WP X (d + 2) (0, 0) MX9_copy 2 [(0, vP (some y0)), (1, vP (some y1)), (2, vI (i : Int))] [] σ Q := by
  intro m
  induction m with
  | zero =>
    intro i σ hi h
    have hi6 : i = 6 := hi
    subst hi6
    have hy := h.1
    have c3 : σ0.2.1 (y1 + 3) 2 ≤ ((5 : Nat) : Int) := by rw [hY.2.2.2.1.1]; exact hW.2.2.2.2.2.2.2.1.1.2
    have c5 : σ0.2.1 (y1 + 5) 2 ≤ ((10 : Nat) : Int) := by rw [hY.2.2.2.2.1.1]; exact hW.2.2.2.2.2.2.2.2.1.1.2
    have c7 : σ0.2.1 (y1 + 7) 2 ≤ ((8 : Nat) : Int) := by rw [hY.2.2.2.2.2.1]; exact hW.2.2.2.2.2.2.2.2.2.1.2
    refine C_X9_copy_2 h.2.1.1 hy.1 hy.2.1 ⟨by omega, fun _ => ?_, fun hz => absurd hz (by omega)⟩
    obtain ⟨r1, r2, r3⟩ := rM_y hy.1
    obtain ⟨s1, s2, s3⟩ := rM_y hy.2.1
    have t := tR y0 (isY_mem hy.1)
    have ty := (tY y0 (isY_mem hy.1)).1
    refine c_copyR (h.heads ty) (o := 3) (n := 5) (S' := SD 1) (Or.inl rfl) r1 s1 ⟨t.1.1, t.1.2.1⟩ c3 (sD1) (fun σ1 k5 => ⟨rfl, k5.2.1.1, ?_⟩)
    refine c_copyR k5 (o := 5) (n := 10) (S' := SD 2) (Or.inr (Or.inl rfl)) r2 s2 ⟨t.2.1.1, t.2.1.2.1⟩ c5 (sD2) (fun σ2 k6 => ⟨rfl, k6.2.1.1, ?_⟩)
    refine c_copyR k6 (o := 7) (n := 8) (S' := SD 3) (Or.inr (Or.inr rfl)) r3 s3 ⟨t.2.2.1, t.2.2.2.1⟩ c7 (sD3) (fun σ3 k7 => ⟨rfl, k7.2.1.1, ?_⟩)
    exact hQ σ3 k7.2.1 (YRp.r (fun a k hp hz => (k7.2.2 _ _ (px_D hp)).trans (hY.p a k hp hz)))
  | succ m ih =>
    intro i σ hi h
    have hy := h.1
    refine C_X9_copy_2 h.2.1.1 hy.1 hy.2.1 ⟨by omega, fun hz => absurd hz (by omega), fun _ => ⟨by omega, by omega, ?_⟩⟩
    rw [show ((i : Int)).toNat = i by omega, show (i : Int) + 1 = ((i + 1 : Nat) : Int) by omega]
    refine c_copyG h (by omega) (fun σ1 k1 => ⟨rfl, k1.2.1.1, c_copyQ k1 (by omega) (fun σ2 k2 => ⟨rfl, k2.2.1.1, ih (i + 1) σ2 (by omega) (k2.mono (fun a k hq => ?_))⟩)⟩)
    have hz : (9 ≤ a ∧ a < 9 + 3 * i ∧ k < 4) ∨ (9 + 3 * i ≤ a ∧ a ≤ 10 + 3 * i ∧ k < 4) ∨ (a = 11 + 3 * i ∧ k < 4) := by unfold SC at hq; omega
    rcases hz with hz | hz | hz
    · exact Or.inl (Or.inl hz)
    · exact Or.inl (Or.inr hz)
    · exact Or.inr hz
theorem c_copy (hs : Sh σ) {y0 y1 : Nat} {nb : Int} (h0 : isY y0) (h1 : isY y1) (hne : y0 ≠ y1) (hY : YR σ y1 Y) (hW : WFY nb Y) (hQ : ∀ σ', Agk (FYx y0) σ σ' → YR σ' y0 Y → Q none σ') : CALL X (d + 2) (0, 0) MX9_copy [vP (some y0), vP (some y1)] σ Q :=
  C_X9_copy hs h0 h1 (c_copyL hY hW hQ 6 0 σ rfl ⟨⟨h0, h1, hne⟩, Agk.rf hs, fun o j hq => by unfold SC at hq; omega⟩)
end COPYS
