/-! BORDER, 9: the reference's tests -/
section TESTM
variable {X : mX} {d : Nat} {σ : mS} {Q : Option mV → mS → Prop} {T : Nat → Int} {n c0 k a : Nat} {C : List Int}
/-- the place of the sign that is read in a String constant, as the reference looks for it -/
theorem m_where {kk : Nat} (hkk : 1 ≤ kk ∧ kk ≤ 6) (h : PM T n c0 k a C σ) {W : Int → Prop} (hW : W (plc (strB kk) (chT T n a) 0)) : (σ.2.1 138 12 ≤ σ.2.1 138 14 → W (-1)) ∧ (¬ σ.2.1 138 12 ≤ σ.2.1 138 14 → 0 ≤ σ.2.1 138 14 ∧ σ.2.1 138 14 < 100 ∧ (σ.2.1 148 ((σ.2.1 138 14).toNat) ≤ 0 → W (-1)) ∧ (¬ σ.2.1 148 ((σ.2.1 138 14).toNat) ≤ 0 → (0 ≤ σ.2.1 148 ((σ.2.1 138 14).toNat) ∧ σ.2.1 148 ((σ.2.1 138 14).toNat) ≤ 127) ∧ W (plc (strB kk) (σ.2.1 148 ((σ.2.1 138 14).toNat)) 0))) := by
  have hch := h.ch
  obtain ⟨hs, ⟨p1, p1', p1''⟩, p2, p3, p4, p5, p6, p7, p8, p9, p10⟩ := h
  have e : a < n → σ.2.1 148 ((σ.2.1 138 14).toNat) = chT T n a := fun q => by unfold chT; rw [if_pos q, p4, show ((a : Nat) : Int).toNat = a by omega, p6 a q]
  have z : ∀ kk, 1 ≤ kk ∧ kk ≤ 6 → plc (strB kk) (-1) 0 = -1 ∧ plc (strB kk) 0 0 = -1 := by
    intro kk h
    have : kk = 1 ∨ kk = 2 ∨ kk = 3 ∨ kk = 4 ∨ kk = 5 ∨ kk = 6 := by omega
    rcases this with rfl | rfl | rfl | rfl | rfl | rfl <;> decide
  obtain ⟨z1, z2⟩ := z kk hkk
  refine ⟨fun q => ?_, fun q => ⟨by omega, by omega, fun r => ?_, fun r => ?_⟩⟩
  · have : chT T n a = -1 := by unfold chT; rw [if_neg (by omega)]
    rw [this, z1] at hW
    exact hW
  · rw [e (by omega)] at r
    have hp := p7 a (by omega)
    have : chT T n a = 0 := by
      have : chT T n a = T a := by unfold chT; rw [if_pos (by omega)]
      omega
    rw [this, z2] at hW
    exact hW
  · rw [e (by omega)] at r ⊢
    exact ⟨by omega, hW⟩
end TESTM
