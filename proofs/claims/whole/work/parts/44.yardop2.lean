/-! bring, row, question, guard, feed -/
section YARDOPB
variable {X : mX} {d : Nat} {σ : mS} {Q : Option mV → mS → Prop}
theorem op_bring (hi : Inv σ) {x1 x2 : Int} (h1 : -2147483648 ≤ x1 ∧ x1 ≤ 2147483647) (h2 : -2147483648 ≤ x2 ∧ x2 ≤ 2147483647) : BothI X (d + 3) MX10_bring MX11_bring [vI x1, vI x2] σ Inv := by
  have hs := hi.1
  have hn := hi.now
  have mno : ¬ (0 ≤ x1 ∧ x1 < σ.2.1 125 6) ∨ (x2 ≠ -1 ∧ ¬ (0 ≤ x2 ∧ x2 < σ.2.1 125 0)) → CALL X (d + 3) (0, 0) MX11_bring [vP (some 125), vI x1, vI x2] σ (fun v' σ2 => v' = some (vI (-1)) ∧ Inv σ2) := fun h =>
    C_X11_bring hs (c_isAsked hs h1 (by omega) ⟨_, rfl, hs, fun _ => ⟨rfl, hi⟩, fun h' => ⟨h2, fun h3 => by rw [decide_eq_true_eq] at h'; omega, fun h3 => c_isOne hs h2 (by omega) ⟨_, rfl, hs, fun _ => ⟨rfl, hi⟩, fun h4 => by rw [decide_eq_true_eq] at h' h4; omega⟩⟩⟩)
  refine C_X10_bring hs (c_questionAt hs (Or.inl rfl) h1 (by omega) ⟨_, rfl, hs, fun h => ⟨_, rfl, hs, by decide, mno (Or.inl (fun h' => qAt_none h (by omega)))⟩, fun a ha => ?_⟩)
  obtain ⟨hq, hr, rfl⟩ := qAt_some (Or.inl rfl) ha (by omega)
  have g := hi.q (q := x1.toNat) (by omega)
  have may : ∀ z : Int, (z = -5 ∧ x2 = -1) ∨ (z = x2 ∧ x2 ≠ -1 ∧ 0 ≤ x2 ∧ x2 < σ.2.1 125 0) → Sh (sI σ (1 + 11 + 3 * x1.toNat) 3 z) ∧ CALL X (d + 3) (0, 0) MX11_bring [vP (some 125), vI x1, vI x2] (sI σ (1 + 11 + 3 * x1.toNat) 3 z) (fun v' σ2 => v' = some (vI (σ.2.1 (1 + 11 + 3 * x1.toNat) 3)) ∧ Inv σ2) := by
    intro z hz
    have hzr : -2147483648 ≤ z ∧ z ≤ 2147483647 := by omega
    have hs1 : Sh (sI σ (1 + 11 + 3 * x1.toNat) 3 z) := sh_I hs hzr (kQ hs hq) (Or.inl (by decide))
    have hs2 : Sh (sI (sI σ (1 + 11 + 3 * x1.toNat) 3 z) 134 x1.toNat z) := sh_I hs1 hzr (hs1.k (a := 134) rfl) (Or.inl (by decide))
    have e : ∀ a k, 125 ≤ a → (sI σ (1 + 11 + 3 * x1.toNat) 3 z).2.1 a k = σ.2.1 a k := fun a k q => by rw [sI_at, if_neg (by omega)]
    have fin : Inv (sI (sI σ (1 + 11 + 3 * x1.toNat) 3 z) 134 x1.toNat z) := by
      have := hi.set1 (a0 := 134) (k0 := x1.toNat) (z := z) (by unfold vp; omega) (by omega)
      rw [show 1 + (px 134 x1.toNat).1 = 1 + 11 + 3 * x1.toNat from (Nat.add_assoc 1 11 _).symm] at this
      exact this hs1 hs2
    have ez : (sI σ (1 + 11 + 3 * x1.toNat) 3 z).2.1 134 x1.toNat = σ.2.1 (1 + 11 + 3 * x1.toNat) 3 := by
      rw [e _ _ (by decide), show 1 + 11 + 3 * x1.toNat = 12 + 3 * x1.toNat by omega, g.2.2.2]
    refine ⟨hs1, C_X11_bring hs1 (c_isAsked hs1 h1 (by rw [e _ _ (by decide)]; omega) ⟨_, rfl, hs1, fun h' => ?_, fun h' => ⟨h2, fun h3 => ⟨by omega, by omega, by rw [ez], ?_⟩, fun h3 => c_isOne hs1 h2 (by rw [e _ _ (by decide)]; omega) ⟨_, rfl, hs1, fun h4 => ?_, fun h4 => ⟨by omega, by omega, by rw [ez], ?_⟩⟩⟩⟩)⟩
    · rw [decide_eq_false_iff_not, e _ _ (by decide)] at h'; omega
    · rw [show (-5 : Int) = z by omega]; exact fin
    · rw [decide_eq_false_iff_not, e _ _ (by decide)] at h4; omega
    · rw [show x2 = z by omega]
      exact fin
  refine ⟨hq, h2, fun h => ⟨_, rfl, (may (-5) (by omega)).1, hs.2.2.1 _ _, (may (-5) (by omega)).2⟩, fun h => c_guardAt hs (Or.inl rfl) h2 (by omega) ⟨_, rfl, hs, fun h' => ⟨_, rfl, hs, by decide, mno (Or.inr ⟨h, fun q => gAt_none h' (by omega)⟩)⟩, fun a hb => ?_⟩⟩
  obtain ⟨hg, hr2, rfl⟩ := gAt_some (Or.inl rfl) hb (by omega)
  exact ⟨hg, _, rfl, (may x2 (by omega)).1, hs.2.2.1 _ _, (may x2 (by omega)).2⟩
theorem op_row (hi : Inv σ) {x1 x2 x3 : Int} (h1 : -2147483648 ≤ x1 ∧ x1 ≤ 2147483647) (h2 : -2147483648 ≤ x2 ∧ x2 ≤ 2147483647) (h3 : -2147483648 ≤ x3 ∧ x3 ≤ 2147483647) : BothI X (d + 3) MX10_row MX11_row [vI x1, vI x2, vI x3] σ Inv := by
  have hs := hi.1
  have hn := hi.now
  have mno : ¬ (0 ≤ x1 ∧ x1 < σ.2.1 125 0) ∨ ¬ (0 ≤ x2 ∧ x2 ≤ 3) → CALL X (d + 3) (0, 0) MX11_row [vP (some 125), vI x1, vI x2, vI x3] σ (fun v' σ2 => v' = some (vI (-1)) ∧ Inv σ2) := fun h =>
    C_X11_row hs (c_isOne hs h1 (by omega) ⟨_, rfl, hs, fun _ => ⟨rfl, hi⟩, fun h' => c_within hs h2 (by decide) (by decide) ⟨_, rfl, hs, fun _ => ⟨rfl, hi⟩, fun h4 => by rw [decide_eq_true_eq] at h' h4; omega⟩⟩)
  have myes : ∀ {σ1 : mS} {Q : Option mV → mS → Prop}, Sh σ1 → (∀ a k, 125 ≤ a → σ1.2.1 a k = σ.2.1 a k) → 0 ≤ x1 ∧ x1 < σ.2.1 125 0 → 0 ≤ x2 ∧ x2 ≤ 3 → (¬ (0 ≤ x3 ∧ x3 ≤ 9) → Q (some (vI (-2))) σ1) → (0 ≤ x3 ∧ x3 ≤ 9 → σ.2.1 126 x1.toNat ≠ 6 → Q (some (vI (-3))) σ1) → (0 ≤ x3 ∧ x3 ≤ 9 → σ.2.1 126 x1.toNat = 6 → Q (some (vI (σ.2.1 130 (4 * x1 + x2).toNat))) (sI σ1 130 (4 * x1 + x2).toNat x3)) → CALL X (d + 3) (0, 0) MX11_row [vP (some 125), vI x1, vI x2, vI x3] σ1 Q := by
    intro σ1 Q hs1 e k1 k2 q1 q2 q3
    refine C_X11_row hs1 (c_isOne hs1 h1 (by rw [e _ _ (by decide)]; omega) ⟨_, rfl, hs1, fun h => ?_, fun h => c_within hs1 h2 (by decide) (by decide) ⟨_, rfl, hs1, fun h4 => ?_, fun h4 => c_within hs1 h3 (by decide) (by decide) ⟨_, rfl, hs1, fun h5 => q1 (of_decide_eq_false h5), fun h5 => ?_⟩⟩⟩)
    · rw [decide_eq_false_iff_not, e _ _ (by decide)] at h; omega
    · rw [decide_eq_false_iff_not] at h4; omega
    · rw [decide_eq_true_eq] at h5
      rw [e _ _ (by decide), e _ _ (by decide)]
      exact ⟨by omega, by omega, fun h6 => ⟨by omega, by omega, h3, q3 h5 h6⟩, fun h6 => q2 h5 h6⟩
  refine C_X10_row hs (c_guardAt hs (Or.inl rfl) h1 (by omega) ⟨_, rfl, hs, fun h => ⟨_, rfl, hs, by decide, mno (Or.inl (fun q => gAt_none h (by omega)))⟩, fun a ha => ?_⟩)
  obtain ⟨hg, hr, rfl⟩ := gAt_some (Or.inl rfl) ha (by omega)
  have g := hi.g (p := x1.toNat) (by omega)
  have e10 : 1 + 9 + 3 * x1.toNat = 10 + 3 * x1.toNat := by omega
  refine ⟨hg, h2, fun h => ⟨_, rfl, hs, by decide, mno (Or.inr (by omega))⟩, fun h => ⟨fun h4 => c_isDigit hs h3 ⟨_, rfl, hs, fun h5 => ⟨_, rfl, hs, by decide, ?_⟩, fun h5 => ⟨fun h6 => ?_, fun h6 => ⟨_, rfl, hs, by decide, ?_⟩⟩⟩, fun h4 => ⟨_, rfl, hs, by decide, mno (Or.inr (by omega))⟩⟩⟩
  · rw [decide_eq_false_iff_not] at h5
    exact myes hs (fun _ _ _ => rfl) (by omega) (by omega) (fun _ => ⟨rfl, hi⟩) (by omega) (by omega)
  · rw [decide_eq_true_eq] at h5
    have hs1 : Sh (sI σ (1 + 9 + 3 * x1.toNat + 1) x2.toNat x3) := sh_I hs h3 (kG1 hs hg) (Or.inl (by decide))
    have hs2 : Sh (sI (sI σ (1 + 9 + 3 * x1.toNat + 1) x2.toNat x3) 130 (4 * x1 + x2).toNat x3) := sh_I hs1 h3 (hs1.k (a := 130) rfl) (Or.inl (by decide))
    refine C_X3_changeRow hs hg ⟨h2, fun h7 => by omega, fun _ => ⟨fun _ => ⟨by omega, h3, _, rfl, hs1, _, rfl, hs1, hs.2.2.1 _ _, ?_⟩, fun h7 => by omega⟩⟩
    refine myes hs1 (fun a k q => by rw [sI_at, if_neg (by omega)]) (by omega) (by omega) (by omega) (fun _ h8 => absurd (by rw [e10, g.1] at h6; exact h6) h8) (fun _ _ => ⟨?_, ?_⟩)
    · have := g.2.2.2.2 x2.toNat (by omega)
      rw [e10, this, show (4 * x1 + x2).toNat = 4 * x1.toNat + x2.toNat by omega]
    · have := hi.set1 (a0 := 130) (k0 := (4 * x1 + x2).toNat) (z := x3) (by unfold vp; omega) (by omega)
      rw [show (px 130 (4 * x1 + x2).toNat) = (10 + 3 * ((4 * x1 + x2).toNat / 4), (4 * x1 + x2).toNat % 4) from rfl] at this
      simp only [show 1 + (10 + 3 * ((4 * x1 + x2).toNat / 4)) = 1 + 9 + 3 * x1.toNat + 1 by omega, show (4 * x1 + x2).toNat % 4 = x2.toNat by omega] at this
      exact this hs1 hs2
  · rw [decide_eq_true_eq] at h5
    rw [e10, g.1] at h6
    exact myes hs (fun _ _ _ => rfl) (by omega) (by omega) (by omega) (fun _ _ => ⟨rfl, hi⟩) (by omega)
theorem bi8_id : ∀ n : Nat, n < 128 → bi8 (n : Int) = (n : Int) := by decide +kernel
theorem op_feed (hi : Inv σ) {x1 : Int} (h1 : -2147483648 ≤ x1 ∧ x1 ≤ 2147483647) : BothI X (d + 1) MX10_feed MX11_feed [vI x1] σ Inv := by
  have hs := hi.1
  obtain ⟨f1, f2, f3⟩ := hi.2.2.2.2.1
  have mm : ∀ {σ1 : mS} {Q : Option mV → mS → Prop}, Sh σ1 → σ1.2.1 125 12 = σ.2.1 125 12 → (¬ (0 ≤ x1 ∧ x1 ≤ 127) → Q (some (vI (-2))) σ1) → (0 ≤ x1 ∧ x1 ≤ 127 → σ.2.1 125 12 = 100 → Q (some (vI (-4))) σ1) → (0 ≤ x1 ∧ x1 ≤ 127 → σ.2.1 125 12 < 100 → Q (some (vI (σ.2.1 125 12 + 1))) (sI (sI σ1 125 12 (σ.2.1 125 12 + 1)) 135 (σ.2.1 125 12).toNat x1)) → CALL X (d + 1) (0, 0) MX11_feed [vP (some 125), vI x1] σ1 Q := by
    intro σ1 Q hs1 e q1 q2 q3
    refine C_X11_feed hs1 (c_within hs1 h1 (by decide) (by decide) ⟨_, rfl, hs1, fun h => q1 (of_decide_eq_false h), fun h => ?_⟩)
    rw [decide_eq_true_eq] at h
    rw [e]
    refine ⟨fun h2 => ⟨by omega, by omega, by omega, h1, ?_⟩, fun h2 => q2 h h2⟩
    rw [sI_at, if_neg (by omega), sI_at, if_pos ⟨rfl, rfl⟩]
    exact q3 h (by omega)
  refine C_X10_feed hs ⟨h1, fun h => ⟨_, rfl, hs, by decide, mm hs rfl (fun _ => ⟨rfl, hi⟩) (by omega) (by omega)⟩, fun h => ⟨fun h2 => C_X5_add hs ⟨fun h3 => ?_, fun h3 => ⟨_, rfl, hs, _, rfl, hs, by decide, mm hs rfl (by omega) (fun _ _ => ⟨rfl, hi⟩) (by omega)⟩⟩, fun h2 => ⟨_, rfl, hs, by decide, mm hs rfl (fun _ => ⟨rfl, hi⟩) (by omega) (by omega)⟩⟩⟩
  have eb : bi8 x1 = x1 := by
    have := bi8_id x1.toNat (by omega)
    rw [show ((x1.toNat : Nat) : Int) = x1 by omega] at this
    exact this
  rw [eb]
  have e1 : (sI σ 109 (σ.2.1 108 1).toNat x1).2.1 108 1 = σ.2.1 108 1 := by rw [sI_at, if_neg (by omega)]
  have hs1 : Sh (sI σ 109 (σ.2.1 108 1).toNat x1) := sh_I hs h1 (hs.k (a := 109) (kd := (51, 100)) rfl) (Or.inl (by decide))
  rw [e1]
  have hs2 : Sh (sI (sI σ 109 (σ.2.1 108 1).toNat x1) 108 1 (σ.2.1 108 1 + 1)) := sh_I hs1 (by omega) (hs1.k (a := 108) rfl) (Or.inl (by decide))
  refine ⟨by omega, by omega, by omega, _, rfl, hs2, _, rfl, hs2, ?_, ?_⟩
  · rw [sI_at, if_pos ⟨rfl, rfl⟩]; omega
  rw [sI_at, if_pos ⟨rfl, rfl⟩]
  refine mm hs2 (by rw [sI_at, if_neg (by omega), sI_at, if_neg (by omega)]) (by omega) (by omega) (fun _ _ => ⟨by rw [f2], ?_⟩)
  have hs3 : Sh (sI (sI (sI σ 109 (σ.2.1 108 1).toNat x1) 108 1 (σ.2.1 108 1 + 1)) 125 12 (σ.2.1 125 12 + 1)) := sh_I hs2 (by omega) (hs2.k (a := 125) rfl) (Or.inl (by decide))
  have hs4 : Sh (sI (sI (sI (sI σ 109 (σ.2.1 108 1).toNat x1) 108 1 (σ.2.1 108 1 + 1)) 125 12 (σ.2.1 125 12 + 1)) 135 (σ.2.1 125 12).toNat x1) := sh_I hs3 h1 (hs3.k (a := 135) rfl) (Or.inl (by decide))
  have hA : Agk (fun a k => a = 109 ∨ (a = 108 ∧ k = 1) ∨ (a = 125 ∧ k = 12) ∨ a = 135) σ (sI (sI (sI (sI σ 109 (σ.2.1 108 1).toNat x1) 108 1 (σ.2.1 108 1 + 1)) 125 12 (σ.2.1 125 12 + 1)) 135 (σ.2.1 125 12).toNat x1) := ((((Agk.rf hs).sI hs1 (Or.inl rfl)).sI hs2 (Or.inr (Or.inl ⟨rfl, rfl⟩))).sI hs3 (Or.inr (Or.inr (Or.inl ⟨rfl, rfl⟩)))).sI hs4 (Or.inr (Or.inr (Or.inr rfl)))
  refine ⟨hA.1, hi.2.1.fr hA (fun a k h => by unfold FYm FYx; omega), hi.2.2.1.fr hA (fun a k h => by unfold FYx; omega), hi.2.2.2.1.fr hA (fun a k h => by omega), ⟨?_, ?_, fun i hl => ?_⟩, hi.2.2.2.2.2.1.fr hA (fun a k h => by omega), hi.2.2.2.2.2.2.fr hA (fun a k h => by omega)⟩
  · simp [sI_at]; omega
  · simp [sI_at]; omega
  · have hl' : (i : Int) < σ.2.1 125 12 + 1 := by simpa [sI_at] using hl
    have ei : ∀ c, (sI (sI (sI (sI σ 109 (σ.2.1 108 1).toNat x1) 108 1 (σ.2.1 108 1 + 1)) 125 12 (σ.2.1 125 12 + 1)) 135 (σ.2.1 125 12).toNat x1).2.1 c i = if c = 135 ∧ i = (σ.2.1 125 12).toNat then x1 else if c = 125 ∧ i = 12 then σ.2.1 125 12 + 1 else if c = 108 ∧ i = 1 then σ.2.1 108 1 + 1 else if c = 109 ∧ i = (σ.2.1 108 1).toNat then x1 else σ.2.1 c i := fun c => rfl
    rw [ei, ei, if_neg (by omega), if_neg (by omega), if_neg (by omega)]
    by_cases hz : i = (σ.2.1 125 12).toNat
    · rw [if_pos (by omega), if_pos (by omega)]
      omega
    · rw [if_neg (by omega), if_neg (by omega), if_neg (by omega), if_neg (by omega), if_neg (by omega)]
      exact f3 i (by omega)
end YARDOPB
