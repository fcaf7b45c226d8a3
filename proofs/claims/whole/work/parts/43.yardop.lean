/-! know, tire, bring, row, sack -/
section YARDOP
variable {X : mX} {d : Nat} {σ : mS} {Q : Option mV → mS → Prop}
def DY : Nat → Nat → Prop := fun a k => FYx 1 a k ∨ (FYm a k ∧ ¬ (a = 125 ∧ k = 18))
theorem Inv.dy {σ' : mS} (hi : Inv σ) (ha : Agk DY σ σ') (hY : InvY σ') : Inv σ' :=
  ⟨ha.1, hY, hi.2.2.1.fr ha (fun a k h => by unfold FYx; unfold DY FYx FYm at h; omega), hi.2.2.2.1.fr ha (fun a k h => by unfold DY FYx FYm at h; omega), hi.2.2.2.2.1.fr ha (fun a k h => by unfold DY FYx FYm at h; omega), hi.2.2.2.2.2.1.fr ha (fun a k h => by unfold DY FYx FYm at h; omega), hi.2.2.2.2.2.2.fr ha (fun a k h => by unfold DY FYx FYm at h; omega)⟩
theorem px_lt {a k : Nat} (h : vp a k) : (px a k).1 ≤ 26 ∧ 125 ≤ a ∧ FYx 1 (1 + (px a k).1) (px a k).2 ∧ FYm a k ∧ ¬ (a = 125 ∧ k = 18) := by
  have h1 := px_F h 1
  have h2 := vp_F h
  refine ⟨?_, ?_, h1, h2, ?_⟩
  · unfold FYx at h1
    omega
  · unfold FYm at h2
    omega
  · unfold vp at h
    omega
theorem WFY.upd {nb : Int} {Y Y' : mY} {a0 k0 : Nat} {z : Int} (h : WFY nb Y) (hm : ∀ a k, ¬ (a = a0 ∧ k = k0) → Y' a k = Y a k) (hz : Y' a0 k0 = z)
    (hr : (a0 = 128 ∧ 0 ≤ z ∧ z < 4096) ∨ (a0 = 129 ∧ 0 ≤ z ∧ z ≤ 99) ∨ (a0 = 130 ∧ 0 ≤ z ∧ z ≤ 9) ∨ (a0 = 133 ∧ 0 ≤ z ∧ z ≤ 2) ∨ (a0 = 134 ∧ (z = -5 ∨ (0 ≤ z ∧ z < Y 125 0)))) : WFY nb Y' := by
  have e : ∀ a k, (a = a0 ∧ k = k0 ∧ Y' a k = z) ∨ Y' a k = Y a k := fun a k => by
    by_cases hz' : a = a0 ∧ k = k0
    · obtain ⟨rfl, rfl⟩ := hz'
      exact Or.inl ⟨rfl, rfl, hz⟩
    · exact Or.inr (hm a k hz')
  have n : ∀ a k, a ≠ a0 → Y' a k = Y a k := fun a k q => hm a k (fun q' => q q'.1)
  have na : ∀ a, a ≠ a0 → Y' a = Y a := fun a q => funext fun k => n a k q
  obtain ⟨h1, h2, h3, h4, h5, h6, h7, ⟨h8, h9⟩, ⟨h10, h11⟩, ⟨h12, h13⟩⟩ := h
  have c : ∀ k, Y' 125 k = Y 125 k := fun k => n 125 k (by omega)
  refine ⟨by rw [c]; exact h1, by rw [c]; exact h2, by rw [c]; exact h3, by rw [c]; exact h4, fun p hp => ?_, fun i hi => ?_, fun q hq => ?_, ?_, ?_, ?_⟩
  · have k := h5 p hp
    refine ⟨?_, ?_, ?_, ?_⟩
    · rcases e 126 p with ⟨u, _, v⟩ | u <;> omega
    · rcases e 127 p with ⟨u, _, v⟩ | u <;> omega
    · rcases e 128 p with ⟨u, _, v⟩ | u <;> omega
    · rcases e 129 p with ⟨u, _, v⟩ | u <;> omega
  · have k := h6 i hi
    rcases e 130 i with ⟨u, _, v⟩ | u <;> omega
  · have k := h7 q hq
    rw [c, c]
    refine ⟨?_, ?_, ?_, fun hq2 => ?_⟩
    · rcases e 131 q with ⟨u, _, v⟩ | u <;> omega
    · rcases e 132 q with ⟨u, _, v⟩ | u <;> omega
    · rcases e 133 q with ⟨u, _, v⟩ | u <;> omega
    · have k2 := k.2.2.2 hq2
      rcases e 134 q with ⟨u, _, v⟩ | u
      · rw [v]; omega
      · rw [u]; exact k2
  · rw [c, c, c, na 143 (by omega), na 144 (by omega), na 145 (by omega)]
    exact ⟨h8, h9⟩
  · rw [c, c, c, na 146 (by omega), na 147 (by omega)]
    exact ⟨h10, h11⟩
  · rw [c, c, na 148 (by omega), na 149 (by omega)]
    exact ⟨h12, h13⟩
theorem YR.set1 (h : YR σ 1 σ.2.1) {a0 k0 : Nat} {z : Int} (hv : vp a0 k0) (h9 : a0 ≠ 146) : YR (sI (sI σ (1 + (px a0 k0).1) (px a0 k0).2 z) a0 k0 z) 1 (sI (sI σ (1 + (px a0 k0).1) (px a0 k0).2 z) a0 k0 z).2.1 := by
  have hl := px_lt hv
  refine h.sets (fun a k => a = a0 ∧ k = k0) (fun a k ⟨e1, e2⟩ => by rw [e1, e2]; exact hv) (fun k ⟨e1, _⟩ => absurd e1.symm h9) (fun a k ⟨e1, e2⟩ => ?_) (fun a k hf hne => ?_) (fun a k hp hne => ?_)
  · rw [e1, e2, sI_at, if_neg (by omega), sI_at, if_pos ⟨rfl, rfl⟩, sI_at, if_pos ⟨rfl, rfl⟩]
  · have := hne a0 k0 ⟨rfl, rfl⟩
    unfold FYx at hf
    rw [sI_at, if_neg (by omega), sI_at, if_neg this]
  · have h3 := px_lt hp
    rw [sI_at, if_neg hne, sI_at, if_neg (by omega)]
/-- one place is set on both sides -/
theorem Inv.set1 (hi : Inv σ) {a0 k0 : Nat} {z : Int} (hv : vp a0 k0)
    (hr : (a0 = 128 ∧ 0 ≤ z ∧ z < 4096) ∨ (a0 = 129 ∧ 0 ≤ z ∧ z ≤ 99) ∨ (a0 = 130 ∧ 0 ≤ z ∧ z ≤ 9) ∨ (a0 = 133 ∧ 0 ≤ z ∧ z ≤ 2) ∨ (a0 = 134 ∧ (z = -5 ∨ (0 ≤ z ∧ z < σ.2.1 125 0))))
    (hs1 : Sh (sI σ (1 + (px a0 k0).1) (px a0 k0).2 z)) (hs2 : Sh (sI (sI σ (1 + (px a0 k0).1) (px a0 k0).2 z) a0 k0 z)) : Inv (sI (sI σ (1 + (px a0 k0).1) (px a0 k0).2 z) a0 k0 z) := by
  have hl := px_lt hv
  have hb : σ.2.1 125 0 ≤ 6 := hi.now.2.1.2
  have e : ∀ k, (sI (sI σ (1 + (px a0 k0).1) (px a0 k0).2 z) a0 k0 z).2.1 125 k = σ.2.1 125 k := fun k => by
    rw [sI_at, if_neg (by omega), sI_at, if_neg (by omega)]
  refine hi.dy (((Agk.rf hi.1).sI hs1 (Or.inl hl.2.2.1)).sI hs2 (Or.inr hl.2.2.2)) ⟨hi.2.1.1.set1 hv (by omega), ?_, ?_⟩
  · rw [e]
    have hW : WFY (σ.2.1 125 18) (sI σ (1 + (px a0 k0).1) (px a0 k0).2 z).2.1 := hi.2.1.2.1.cg (fun a k hf => by
      rw [sI_at, if_neg]
      unfold FYm at hf
      omega)
    refine hW.upd (a0 := a0) (k0 := k0) (z := z) (fun a k hne => by rw [sI_at, if_neg hne]) (by rw [sI_at, if_pos ⟨rfl, rfl⟩]) ?_
    rw [sI_at, if_neg (by omega)]
    exact hr
  · rw [e]
    exact hi.2.1.2.2
theorem Inv.q (hi : Inv σ) {q : Nat} (hq : q < 6) : σ.2.1 (12 + 3 * q) 0 = σ.2.1 131 q ∧ σ.2.1 (12 + 3 * q) 1 = σ.2.1 132 q ∧ σ.2.1 (12 + 3 * q) 2 = σ.2.1 133 q ∧ σ.2.1 (12 + 3 * q) 3 = σ.2.1 134 q := by
  have := hi.2.1.1.2.2.1 q hq
  rw [show (1 + 11 + 3 * q) = 12 + 3 * q by omega] at this
  exact this
theorem Inv.qr (hi : Inv σ) {q : Nat} (hq : q < 6) : (0 ≤ σ.2.1 131 q ∧ σ.2.1 131 q < 4096) ∧ (0 ≤ σ.2.1 132 q ∧ σ.2.1 132 q ≤ 99) ∧ (0 ≤ σ.2.1 133 q ∧ σ.2.1 133 q ≤ 2) ∧ ((q : Int) < σ.2.1 125 6 → σ.2.1 134 q = -5 ∨ (0 ≤ σ.2.1 134 q ∧ σ.2.1 134 q < σ.2.1 125 0)) := hi.2.1.2.1.2.2.2.2.2.2.1 q hq
theorem op_know (hi : Inv σ) {x1 x2 : Int} (h1 : -2147483648 ≤ x1 ∧ x1 ≤ 2147483647) (h2 : -2147483648 ≤ x2 ∧ x2 ≤ 2147483647) : BothI X (d + 3) MX10_know MX11_know [vI x1, vI x2] σ Inv := by
  have hs := hi.1
  have hn := hi.now
  have mno : ¬ (0 ≤ x1 ∧ x1 < σ.2.1 1 5) → CALL X (d + 3) (0, 0) MX11_know [vP (some 125), vI x1, vI x2] σ (fun v' σ2 => v' = some (vI (-1)) ∧ Inv σ2) := fun h =>
    C_X11_know hs (c_isOne hs h1 (by omega) ⟨_, rfl, hs, fun _ => ⟨rfl, hi⟩, fun h' => by rw [decide_eq_true_eq] at h'; omega⟩)
  refine C_X10_know hs (c_guardAt hs (Or.inl rfl) h1 (by omega) ⟨_, rfl, hs, fun h => ⟨_, rfl, hs, by decide, mno (gAt_none h)⟩, fun a ha => ?_⟩)
  obtain ⟨hg, hr, rfl⟩ := gAt_some (Or.inl rfl) ha (by omega)
  have g := hi.g (p := x1.toNat) (by omega)
  refine ⟨hg, c_isSet hs h2 ⟨_, rfl, hs, fun h => ⟨_, rfl, hs, by decide, ?_⟩, fun h => ⟨h2, ?_⟩⟩⟩
  · rw [decide_eq_false_iff_not] at h
    refine C_X11_know hs (c_isOne hs h1 (by omega) ⟨_, rfl, hs, fun h' => by rw [decide_eq_false_iff_not] at h'; omega, fun h' => c_areMatters hs h2 ⟨_, rfl, hs, fun _ => ⟨rfl, hi⟩, fun h3 => by rw [decide_eq_true_eq] at h3; omega⟩⟩)
  · rw [decide_eq_true_eq] at h
    have hs1 : Sh (sI σ (1 + 9 + 3 * x1.toNat) 2 x2) := sh_I hs h2 (kG hs hg) (Or.inl (by decide))
    have hs2 : Sh (sI (sI σ (1 + 9 + 3 * x1.toNat) 2 x2) 128 x1.toNat x2) := sh_I hs1 h2 (hs1.k (a := 128) rfl) (Or.inl (by decide))
    have e : ∀ a k, 125 ≤ a → (sI σ (1 + 9 + 3 * x1.toNat) 2 x2).2.1 a k = σ.2.1 a k := fun a k q => by rw [sI_at, if_neg (by omega)]
    refine ⟨_, rfl, hs1, hs.2.2.1 _ _, C_X11_know hs1 (c_isOne hs1 h1 (by rw [e _ _ (by decide)]; omega) ⟨_, rfl, hs1, fun h' => ?_, fun h' => c_areMatters hs1 h2 ⟨_, rfl, hs1, fun h3 => ?_, fun h3 => ⟨by omega, by omega, h2, ?_, ?_⟩⟩⟩)⟩
    · rw [decide_eq_false_iff_not, e _ _ (by decide)] at h'; omega
    · rw [decide_eq_false_iff_not] at h3; omega
    · rw [e _ _ (by decide), show 1 + 9 + 3 * x1.toNat = 10 + 3 * x1.toNat by omega, g.2.2.1]
    · have := hi.set1 (a0 := 128) (k0 := x1.toNat) (z := x2) (by unfold vp; omega) (by omega)
      rw [show 1 + (px 128 x1.toNat).1 = 1 + 9 + 3 * x1.toNat from (Nat.add_assoc 1 9 _).symm] at this
      exact this hs1 hs2
theorem op_tire (hi : Inv σ) {x1 x2 : Int} (h1 : -2147483648 ≤ x1 ∧ x1 ≤ 2147483647) (h2 : -2147483648 ≤ x2 ∧ x2 ≤ 2147483647) : BothI X (d + 3) MX10_tire MX11_tire [vI x1, vI x2] σ Inv := by
  have hs := hi.1
  have hn := hi.now
  have mno : ¬ (0 ≤ x1 ∧ x1 < σ.2.1 1 5) → CALL X (d + 3) (0, 0) MX11_tire [vP (some 125), vI x1, vI x2] σ (fun v' σ2 => v' = some (vI (-1)) ∧ Inv σ2) := fun h =>
    C_X11_tire hs (c_isOne hs h1 (by omega) ⟨_, rfl, hs, fun _ => ⟨rfl, hi⟩, fun h' => by rw [decide_eq_true_eq] at h'; omega⟩)
  refine C_X10_tire hs (c_guardAt hs (Or.inl rfl) h1 (by omega) ⟨_, rfl, hs, fun h => ⟨_, rfl, hs, by decide, mno (gAt_none h)⟩, fun a ha => ?_⟩)
  obtain ⟨hg, hr, rfl⟩ := gAt_some (Or.inl rfl) ha (by omega)
  have g := hi.g (p := x1.toNat) (by omega)
  refine ⟨hg, c_isUpTo99 hs h2 ⟨_, rfl, hs, fun h => ⟨_, rfl, hs, by decide, ?_⟩, fun h => ⟨h2, ?_⟩⟩⟩
  · rw [decide_eq_false_iff_not] at h
    refine C_X11_tire hs (c_isOne hs h1 (by omega) ⟨_, rfl, hs, fun h' => by rw [decide_eq_false_iff_not] at h'; omega, fun h' => c_within hs h2 (by decide) (by decide) ⟨_, rfl, hs, fun _ => ⟨rfl, hi⟩, fun h3 => by rw [decide_eq_true_eq] at h3; omega⟩⟩)
  · rw [decide_eq_true_eq] at h
    have hs1 : Sh (sI σ (1 + 9 + 3 * x1.toNat) 3 x2) := sh_I hs h2 (kG hs hg) (Or.inl (by decide))
    have hs2 : Sh (sI (sI σ (1 + 9 + 3 * x1.toNat) 3 x2) 129 x1.toNat x2) := sh_I hs1 h2 (hs1.k (a := 129) rfl) (Or.inl (by decide))
    have e : ∀ a k, 125 ≤ a → (sI σ (1 + 9 + 3 * x1.toNat) 3 x2).2.1 a k = σ.2.1 a k := fun a k q => by rw [sI_at, if_neg (by omega)]
    refine ⟨_, rfl, hs1, hs.2.2.1 _ _, C_X11_tire hs1 (c_isOne hs1 h1 (by rw [e _ _ (by decide)]; omega) ⟨_, rfl, hs1, fun h' => ?_, fun h' => c_within hs1 h2 (by decide) (by decide) ⟨_, rfl, hs1, fun h3 => ?_, fun h3 => ⟨by omega, by omega, h2, ?_, ?_⟩⟩⟩)⟩
    · rw [decide_eq_false_iff_not, e _ _ (by decide)] at h'; omega
    · rw [decide_eq_false_iff_not] at h3; omega
    · rw [e _ _ (by decide), show 1 + 9 + 3 * x1.toNat = 10 + 3 * x1.toNat by omega, g.2.2.2.1]
    · have := hi.set1 (a0 := 129) (k0 := x1.toNat) (z := x2) (by unfold vp; omega) (by omega)
      rw [show 1 + (px 129 x1.toNat).1 = 1 + 9 + 3 * x1.toNat from (Nat.add_assoc 1 9 _).symm] at this
      exact this hs1 hs2
theorem op_sack (hi : Inv σ) {x1 x2 : Int} (h1 : -2147483648 ≤ x1 ∧ x1 ≤ 2147483647) (h2 : -2147483648 ≤ x2 ∧ x2 ≤ 2147483647) : BothI X (d + 3) MX10_sack MX11_sack [vI x1, vI x2] σ Inv := by
  have hs := hi.1
  have hn := hi.now
  have mm : ∀ z : Int, (¬ (0 ≤ x1 ∧ x1 < σ.2.1 125 6) ∨ ¬ (0 ≤ x2 ∧ x2 ≤ 3) → z = -1) → (0 ≤ x1 ∧ x1 < σ.2.1 125 6 → (x2 = 0 → z = σ.2.1 131 x1.toNat) ∧ (x2 = 1 → z = σ.2.1 132 x1.toNat) ∧ (x2 = 2 → z = σ.2.1 133 x1.toNat) ∧ (x2 = 3 → z = σ.2.1 134 x1.toNat)) → CALL X (d + 3) (0, 0) MX11_sack [vP (some 125), vI x1, vI x2] σ (fun v' σ2 => v' = some (vI z) ∧ Inv σ2) := by
    intro z k1 k2
    refine C_X11_sack hs (c_isAsked hs h1 (by omega) ⟨_, rfl, hs, fun h => ?_, fun h => ?_⟩)
    · rw [decide_eq_false_iff_not] at h
      rw [k1 (Or.inl h)]
      exact ⟨rfl, hi⟩
    · rw [decide_eq_true_eq] at h
      have k2 := k2 h
      refine ⟨h2, fun h3 => ⟨by omega, by omega, ?_, hi⟩, fun h3 => ⟨by omega, by omega, ?_, hi⟩, fun h3 => ⟨by omega, by omega, ?_, hi⟩, fun h3 => ⟨by omega, by omega, ?_, hi⟩, fun h3 => ⟨?_, hi⟩⟩
      · rw [k2.1 h3]
      · rw [k2.2.1 h3]
      · rw [k2.2.2.1 h3]
      · rw [k2.2.2.2 h3]
      · rw [k1 (Or.inr (by omega))]
  refine C_X10_sack hs (c_questionAt hs (Or.inl rfl) h1 (by omega) ⟨_, rfl, hs, fun h => ⟨_, rfl, hs, by decide, mm _ (fun _ => rfl) (fun h' => absurd (by omega) (qAt_none h))⟩, fun a ha => ?_⟩)
  obtain ⟨hq, hr, rfl⟩ := qAt_some (Or.inl rfl) ha (by omega)
  have g := hi.q (q := x1.toNat) (by omega)
  rw [show 1 + 11 + 3 * x1.toNat = 12 + 3 * x1.toNat by omega, g.1, g.2.1, g.2.2.1, g.2.2.2]
  refine ⟨hq, h2, fun h => ⟨_, rfl, hs, hs.2.2.1 _ _, mm _ (by omega) (fun _ => ⟨fun _ => rfl, by omega, by omega, by omega⟩)⟩, fun h => ⟨_, rfl, hs, hs.2.2.1 _ _, mm _ (by omega) (fun _ => ⟨by omega, fun _ => rfl, by omega, by omega⟩)⟩, fun h => ⟨_, rfl, hs, hs.2.2.1 _ _, mm _ (by omega) (fun _ => ⟨by omega, by omega, fun _ => rfl, by omega⟩)⟩, fun h => ⟨_, rfl, hs, hs.2.2.1 _ _, mm _ (by omega) (fun _ => ⟨by omega, by omega, by omega, fun _ => rfl⟩)⟩, fun h => ⟨_, rfl, hs, by decide, mm _ (fun _ => rfl) (fun _ => ⟨by omega, by omega, by omega, by omega⟩)⟩⟩
end YARDOP
