/-! BORDER, 8: the reference's numbers, whole -/
section NUMM2
variable {X : mX} {d : Nat} {σ : mS} {Q : Option mV → mS → Prop} {T : Nat → Int} {n c0 k a : Nat} {C : List Int}
theorem m_number (h : PM T n c0 k a C σ) (hy : (pNum T n a).1 = true → ∀ σ', PM T n c0 k (pNum T n a).2.1 C σ' → Agk (DFm c0) σ σ' → σ'.2.1 125 15 = (pNum T n a).2.2 → Q (some (vI (bB true))) σ') (hn : (pNum T n a).1 = false → ∀ σ', PM T n c0 k a C σ' → Agk (DFm c0) σ σ' → Q (some (vI (bB false))) σ') : CALL X (d + 1) (0, 0) MX11_isNumber [vP (some 125)] σ Q := by
  have e1 := plc_rng (chT T n a) digL 0
  have e2 := plc_rng (chT T n (a + 1)) digL 0
  simp only [List.length_cons, List.length_nil] at e1 e2
  unfold pNum at hy hn
  obtain ⟨a1, a2⟩ := h.put (j := 15) (k' := k) (a' := a) (z := 0) (by omega) (by omega) h.2.1.2.2 h.2.2.1 h.2.2.2.2.2.2.2.2.2.1 (by rw [if_neg (by omega)]; exact h.2.2.2.2.1.symm) (by rw [if_neg (by omega)]; exact h.2.2.2.2.2.1.symm)
  obtain ⟨b1, b2⟩ := a1.put (j := 16) (k' := k) (a' := a) (z := 0) (by omega) (by omega) h.2.1.2.2 h.2.2.1 h.2.2.2.2.2.2.2.2.2.1 (by rw [if_neg (by omega)]; exact a1.2.2.2.2.1.symm) (by rw [if_neg (by omega)]; exact a1.2.2.2.2.2.1.symm)
  have A := a2.tr b2 (fun _ _ h => h) (fun _ _ h => h)
  refine C_X11_isNumber (d := d) h.1 (m_numStep (c := 0) (v := 0) b1 ?_ ?_ (Or.inl rfl) (by decide) (fun q _ => ?_) (fun _ q => absurd q (by decide)) (fun q σ1 g1 g2 g3 g4 => m_numStep (c := 1) (v := plc digL (chT T n a) 0) g1 g3 (by rw [g4]; omega) (Or.inr rfl) (by omega) (fun _ q => absurd q (by decide)) (fun r _ => ?_) (fun r σ2 f1 f2 f3 f4 => ?_)))
  · rw [sI_at, if_pos ⟨rfl, rfl⟩]
  · rw [sI_at, if_neg (by omega), sI_at, if_pos ⟨rfl, rfl⟩]
  · rw [if_neg q] at hn
    exact hn rfl _ b1 A
  · rw [if_pos q, if_neg r] at hy
    exact hy rfl _ g1 (A.tr g2 (fun _ _ h => h) (fun _ _ h => h)) (by rw [g4]; show 10 * 0 + plc digL (chT T n a) 0 = plc digL (chT T n a) 0; omega)
  · rw [if_pos q, if_pos r] at hy
    have p15 := f3
    exact C_X11_isNumber_10 f1.1 ⟨fun _ => ⟨fun t => absurd t (by omega), fun _ => hy rfl _ f1 ((A.tr g2 (fun _ _ h => h) (fun _ _ h => h)).tr f2 (fun _ _ h => h) (fun _ _ h => h)) f4⟩, fun t => absurd (show (2 : Int) ≤ σ2.2.1 125 16 by omega) t⟩
end NUMM2
