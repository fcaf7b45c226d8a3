/-! BORDER, 7: the reference's numbers -/
section NUMM
variable {X : mX} {d : Nat} {σ : mS} {Q : Option mV → mS → Prop} {T : Nat → Int} {n c0 k a : Nat} {C : List Int}
theorem plc_dig {z : Int} (h : z = -1 ∨ (0 ≤ z ∧ z ≤ 127)) : plc digL z 0 = if 48 ≤ z ∧ z ≤ 57 then z - 48 else -1 := by
  rcases h with rfl | h
  · decide
  · have : ∀ m : Nat, m < 128 → plc digL (m : Int) 0 = if 48 ≤ (m : Int) ∧ (m : Int) ≤ 57 then (m : Int) - 48 else -1 := by decide +kernel
    have e := this z.toNat (by omega)
    rw [show ((z.toNat : Nat) : Int) = z by omega] at e
    exact e
theorem m_digit (h : PM T n c0 k a C σ) (hy : 0 ≤ plc digL (chT T n a) 0 → Q (some (vI (bB true))) σ) (hn : ¬ 0 ≤ plc digL (chT T n a) 0 → Q (some (vI (bB false))) σ) : CALL X d (0, 0) MX11_isDigit [vP (some 125)] σ Q := by
  have hch := h.ch
  rw [plc_dig hch] at hy hn
  obtain ⟨hs, ⟨p1, p1', p1''⟩, p2, p3, p4, p5, p6, p7, p8, p9, p10⟩ := h
  have e : a < n → σ.2.1 135 ((σ.2.1 125 14).toNat) = chT T n a := fun q => by unfold chT; rw [if_pos q, p4, show ((a : Nat) : Int).toNat = a by omega, p6 a q]
  refine C_X11_isDigit hs ⟨fun q => hn ?_, fun q => ⟨by omega, by omega, fun r => hn ?_, fun r => ⟨fun t => hn ?_, fun t => hy ?_⟩⟩⟩
  · have : chT T n a = -1 := by unfold chT; rw [if_neg (by omega)]
    rw [if_neg (by omega)]; decide
  · rw [e (by omega)] at r
    rw [if_neg (by omega)]; decide
  · rw [e (by omega)] at t
    rw [if_neg (by omega)]; decide
  · rw [e (by omega)] at r t
    rw [if_pos (by omega)]; omega
theorem m_numStep {c v : Int} (h : PM T n c0 k a C σ) (hc : σ.2.1 125 16 = c) (hv : σ.2.1 125 15 = v) (hc2 : c = 0 ∨ c = 1) (hv2 : 0 ≤ v ∧ v ≤ 9) (hn0 : ¬ 0 ≤ plc digL (chT T n a) 0 → c = 0 → Q (some (vI (bB false))) σ) (hn1 : ¬ 0 ≤ plc digL (chT T n a) 0 → c = 1 → Q (some (vI (bB true))) σ)
    (hy : 0 ≤ plc digL (chT T n a) 0 → ∀ σ', PM T n c0 k (a + 1) C σ' → Agk (DFm c0) σ σ' → σ'.2.1 125 16 = c + 1 → σ'.2.1 125 15 = 10 * v + plc digL (chT T n a) 0 → WP X (d + 1) (0, 0) MX11_isNumber 10 [(0, vP (some 125))] [] σ' Q) : WP X (d + 1) (0, 0) MX11_isNumber 10 [(0, vP (some 125))] [] σ Q := by
  have hch := h.ch
  refine C_X11_isNumber_10 h.1 ⟨fun q => absurd q (by omega), fun _ => m_digit h (fun q => ⟨true, rfl, h.1, (fun q => nomatch q), fun _ => ?_⟩) (fun q => ⟨false, rfl, h.1, fun _ => ⟨fun r => hn0 q (by omega), fun r => hn1 q (by omega)⟩, (fun q => nomatch q)⟩)⟩
  have ha := plc_in (T := T) (n := n) (L := digL) (by decide) q
  have hy := hy q
  rw [plc_dig hch] at q hy
  have hd : 48 ≤ chT T n a ∧ chT T n a ≤ 57 := by
    by_cases r : 48 ≤ chT T n a ∧ chT T n a ≤ 57
    · exact r
    · rw [if_neg r] at q
      exact absurd q (by decide)
  rw [if_pos hd] at hy
  have p4 := h.2.2.2.2.1
  have p1 := h.2.1.1
  have e : σ.2.1 135 ((σ.2.1 125 14).toNat) = chT T n a := by unfold chT; rw [if_pos ha, p4, show ((a : Nat) : Int).toNat = a by omega, h.2.2.2.2.2.2.1 a ha]
  rw [e, hv]
  obtain ⟨a1, a2⟩ := h.put (j := 15) (k' := k) (a' := a) (z := 10 * v + chT T n a - 48) (by omega) (by omega) h.2.1.2.2 h.2.2.1 h.2.2.2.2.2.2.2.2.2.1 (by rw [if_neg (by omega)]; exact p4.symm) (by rw [if_neg (by omega)]; exact h.2.2.2.2.2.1.symm)
  have b4 := a1.2.2.2.2.1
  obtain ⟨b1, b2⟩ := a1.put (j := 14) (k' := k) (a' := a + 1) (z := (sI σ 125 15 (10 * v + chT T n a - 48)).2.1 125 14 + 1) (by omega) (by omega) h.2.1.2.2 (by omega) (by have := h.2.2.2.2.2.2.2.2.2.1; omega) (by rw [if_pos rfl]; omega) (by rw [if_neg (by omega)]; exact a1.2.2.2.2.2.1.symm)
  have e16 : (sI (sI σ 125 15 (10 * v + chT T n a - 48)) 125 14 ((sI σ 125 15 (10 * v + chT T n a - 48)).2.1 125 14 + 1)).2.1 125 16 = c := by rw [sI_at, if_neg (by omega), sI_at, if_neg (by omega)]; exact hc
  obtain ⟨d1, d2⟩ := b1.put (j := 16) (k' := k) (a' := a + 1) (z := (sI (sI σ 125 15 (10 * v + chT T n a - 48)) 125 14 ((sI σ 125 15 (10 * v + chT T n a - 48)).2.1 125 14 + 1)).2.1 125 16 + 1) (by omega) (by omega) h.2.1.2.2 (by omega) (by have := h.2.2.2.2.2.2.2.2.2.1; omega) (by rw [if_neg (by omega)]; exact b1.2.2.2.2.1.symm) (by rw [if_neg (by omega)]; exact b1.2.2.2.2.2.1.symm)
  refine ⟨by omega, by omega, by omega, by omega, by omega, hy _ d1 ((a2.tr b2 (fun _ _ h => h) (fun _ _ h => h)).tr d2 (fun _ _ h => h) (fun _ _ h => h)) ?_ ?_⟩
  · rw [sI_at, if_pos ⟨rfl, rfl⟩, e16]
  · rw [sI_at, if_neg (by omega), sI_at, if_neg (by omega), sI_at, if_pos ⟨rfl, rfl⟩]; omega
end NUMM
