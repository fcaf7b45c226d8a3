/-! TAPES, the class beside the reference -/
def BothI (X : mX) (d : Nat) (Mx Mm : mM) (as : List mV) (σ : mS) (P : mS → Prop) : Prop :=
  CALL X d (0, 0) Mx (vP (some 0) :: as) σ (fun v σ1 => ∃ z : Int, v = some (vI z) ∧ Sh σ1 ∧ (-2147483648 ≤ z ∧ z ≤ 2147483647) ∧ CALL X d (0, 0) Mm (vP (some 125) :: as) σ1 (fun v' σ2 => v' = some (vI z) ∧ P σ2))
def BothL (X : mX) (d : Nat) (Mx Mm : mM) (as : List mV) (σ : mS) (P : mS → Prop) : Prop :=
  CALL X d (0, 0) Mx (vP (some 0) :: as) σ (fun v σ1 => ∃ z : Int, v = some (vL z) ∧ Sh σ1 ∧ (-9223372036854775808 ≤ z ∧ z ≤ 9223372036854775807) ∧ CALL X d (0, 0) Mm (vP (some 125) :: as) σ1 (fun v' σ2 => v' = some (vL z) ∧ P σ2))
def DE : Nat → Prop := fun a => (113 ≤ a ∧ a ≤ 124) ∨ a = 155 ∨ a = 156 ∨ a = 157
section TAPEOP
variable {X : mX} {d : Nat} {σ : mS} {Q : Option mV → mS → Prop}
theorem x_tape (hs : Sh σ) (hE : InvE σ) {x1 x2 x3 : Int} (h1 : -2147483648 ≤ x1 ∧ x1 ≤ 2147483647) (h2 : -2147483648 ≤ x2 ∧ x2 ≤ 2147483647) (h3 : -2147483648 ≤ x3 ∧ x3 ≤ 2147483647)
    (hq1 : ¬ (0 ≤ x1 ∧ x1 ≤ 5) → Q (some (vI (-1))) σ) (hq2 : 0 ≤ x1 ∧ x1 ≤ 5 → ¬ (-1 ≤ x2 ∧ x2 ≤ 4) ∨ (x2 ≠ -1 ∧ 60 < x3) → Q (some (vI (-2))) σ) (hq3 : 0 ≤ x1 ∧ x1 ≤ 5 → 0 ≤ x2 ∧ x2 ≤ 4 → x3 < 0 → Q (some (vI (-14))) σ)
    (hq4 : 0 ≤ x1 ∧ x1 ≤ 5 → -1 ≤ x2 ∧ x2 ≤ 4 → (x2 = -1 ∨ (0 ≤ x3 ∧ x3 ≤ 60)) → ∀ σ', Ag (fun q => q = 113 + 2 * x1.toNat ∨ q = 113 + 2 * x1.toNat + 1) σ σ' → σ'.2.1 (113 + 2 * x1.toNat) 1 = x2 → σ'.2.1 (113 + 2 * x1.toNat) 2 = (if x2 = -1 then 0 else x3) → (∀ i, i < 60 → σ'.2.2.1 (113 + 2 * x1.toNat + 1) i = 0) → Q (some (vI 1)) σ') : CALL X (d + 2) (0, 0) MX10_tape [vP (some 0), vI x1, vI x2, vI x3] σ Q := by
  have bec : ∀ {a : Nat} (ha : isT a) {s n m : Int}, (-1 ≤ s ∧ s ≤ 4) → (-2147483648 ≤ n ∧ n ≤ 2147483647) → max 0 (min n 60) = m → ∀ {Q' : Option mV → mS → Prop}, (∀ σ', Ag (fun q => q = a ∨ q = a + 1) σ σ' → σ'.2.1 a 1 = s → σ'.2.1 a 2 = m → (∀ i, i < 60 → σ'.2.2.1 (a + 1) i = 0) → Q' none σ') → CALL X (d + 1) (0, 0) MX8_become [vP (some a), vI s, vI n] σ Q' := by
    intro a ha s n m hsr hn hm Q' hQ'
    have hs1 : Sh (sI σ a 1 s) := sh_I hs (by omega) (kT hs ha) (Or.inl (by decide))
    have hs2 : Sh (sI (sI σ a 1 s) a 2 (max 0 (min n 60))) := sh_I hs1 (by omega) (kT hs1 ha) (Or.inl (by decide))
    refine C_X8_become hs ha ⟨by omega, by omega, c_fillL hs2 (kT1 hs2 ha) (by omega) (fun σ' hA hI hz => ⟨rfl, hA.1, hQ' σ' ?_ ?_ ?_ hz⟩)⟩
    · exact (((Ag.rf hs).sI hs1 (Or.inl rfl)).sI hs2 (Or.inl rfl)).tr hA (fun _ h => h) (fun _ h => Or.inr h)
    · rw [hI, sI_at, if_neg (by omega), sI_at, if_pos ⟨rfl, rfl⟩]
    · rw [hI, sI_at, if_pos ⟨rfl, rfl⟩, hm]
  refine C_X10_tape hs (c_tapeAt hs h1 ⟨_, rfl, hs, fun hn => hq1 (tAt_none hn), fun a ha => ?_⟩)
  obtain ⟨hT, hr, rfl⟩ := tAt_some ha
  refine ⟨hT, h2, fun h => hq2 hr (Or.inl (by omega)), fun h => ⟨fun h4 => ⟨fun h5 => ⟨h3, fun h6 => ⟨fun h7 => ?_, fun h7 => hq3 hr (by omega) (by omega)⟩, fun h6 => hq2 hr (Or.inr (by omega))⟩, fun h5 => ?_⟩, fun h4 => hq2 hr (Or.inl (by omega))⟩⟩
  · refine bec hT (by omega) h3 (m := x3) (by omega) (fun σ' hA e1 e2 e3 => ⟨rfl, hA.1, hq4 hr (by omega) (Or.inr (by omega)) σ' hA e1 ?_ e3⟩)
    rw [if_neg h5]; exact e2
  · subst h5
    refine bec hT (by omega) (by decide) (m := 0) (by decide) (fun σ' hA e1 e2 e3 => ⟨rfl, hA.1, hq4 hr (by omega) (Or.inl rfl) σ' hA e1 ?_ e3⟩)
    rw [if_pos rfl]; exact e2
theorem m_tape (hs : Sh σ) {x1 x2 x3 : Int} (h1 : -2147483648 ≤ x1 ∧ x1 ≤ 2147483647) (h2 : -2147483648 ≤ x2 ∧ x2 ≤ 2147483647) (h3 : -2147483648 ≤ x3 ∧ x3 ≤ 2147483647)
    (hq1 : ¬ (0 ≤ x1 ∧ x1 ≤ 5) → Q (some (vI (-1))) σ) (hq2 : 0 ≤ x1 ∧ x1 ≤ 5 → ¬ (-1 ≤ x2 ∧ x2 ≤ 4) ∨ (x2 ≠ -1 ∧ 60 < x3) → Q (some (vI (-2))) σ) (hq3 : 0 ≤ x1 ∧ x1 ≤ 5 → 0 ≤ x2 ∧ x2 ≤ 4 → x3 < 0 → Q (some (vI (-14))) σ)
    (hq4 : 0 ≤ x1 ∧ x1 ≤ 5 → -1 ≤ x2 ∧ x2 ≤ 4 → (x2 = -1 ∨ (0 ≤ x3 ∧ x3 ≤ 60)) → ∀ σ', Ag (fun q => q = 155 ∨ q = 156 ∨ q = 157) σ σ' → (∀ t, σ'.2.1 155 t = if t = x1.toNat then x2 else σ.2.1 155 t) → (∀ t, σ'.2.1 156 t = if t = x1.toNat then (if x2 = -1 then 0 else x3) else σ.2.1 156 t) → (∀ j, σ'.2.2.1 157 j = if 60 * x1.toNat ≤ j ∧ j < 60 * x1.toNat + 60 then 0 else σ.2.2.1 157 j) → Q (some (vI 1)) σ') : CALL X (d + 2) (0, 0) MX11_tape [vP (some 125), vI x1, vI x2, vI x3] σ Q := by
  have key : ∀ (σ0 : mS) (t : Nat), t < 6 → ∀ (m i : Nat) (σ1 : mS), i + m = 60 → Ag (fun q => q = 157) σ0 σ1 → σ1.2.1 = σ0.2.1 → (∀ j, σ1.2.2.1 157 j = if 60 * t ≤ j ∧ j < 60 * t + i then 0 else σ0.2.2.1 157 j) → (∀ σ', Ag (fun q => q = 157) σ0 σ' → σ'.2.1 = σ0.2.1 → (∀ j, σ'.2.2.1 157 j = if 60 * t ≤ j ∧ j < 60 * t + 60 then 0 else σ0.2.2.1 157 j) → Q (some (vI 1)) σ') → WP X (d + 2) (0, 0) MX11_tape 67 [(0, vP (some 125)), (1, vI (t : Int)), (4, vI (i : Int))] [] σ1 Q := by
    intro σ0 t ht m
    induction m with
    | zero =>
      intro i σ1 hi hA hI hz hq
      exact C_X11_tape_67 hA.1 ⟨by omega, fun _ => hq σ1 hA hI (fun j => by rw [hz j]; simp [show i = 60 by omega]), fun h => absurd h (by omega)⟩
    | succ m ih =>
      intro i σ1 hi hA hI hz hq
      refine C_X11_tape_67 hA.1 ⟨by omega, fun h => absurd h (by omega), fun _ => ⟨by omega, by omega, ?_⟩⟩
      rw [show (60 * (t : Int) + (i : Int)).toNat = 60 * t + i by omega, show (i : Int) + 1 = ((i + 1 : Nat) : Int) by omega]
      refine ih (i + 1) _ (by omega) (hA.sL (sh_L hA.1 (by decide)) rfl) hI (fun j => ?_) hq
      rw [sL_at]
      by_cases hj : j = 60 * t + i
      · rw [if_pos ⟨rfl, hj⟩, if_pos (by omega)]
      · rw [if_neg (fun h => hj h.2), hz j]
        by_cases h5 : 60 * t ≤ j ∧ j < 60 * t + i
        · rw [if_pos h5, if_pos (by omega)]
        · rw [if_neg h5, if_neg (by omega)]
  have fin : 0 ≤ x1 ∧ x1 ≤ 5 → -1 ≤ x2 ∧ x2 ≤ 4 → (x2 = -1 ∨ (0 ≤ x3 ∧ x3 ≤ 60)) → ∀ z : Int, z = (if x2 = -1 then 0 else x3) → WP X (d + 2) (0, 0) MX11_tape 67 [(0, vP (some 125)), (1, vI x1), (4, vI 0)] [] (sI (sI σ 155 x1.toNat x2) 156 x1.toNat z) Q := by
    intro hr hr2 hr3 z hz
    have hz2 : 0 ≤ z ∧ z ≤ 60 := by rw [hz]; split <;> omega
    have hs1 : Sh (sI σ 155 x1.toNat x2) := sh_I hs (by omega) (hs.k (a := 155) rfl) (Or.inl (by decide))
    have hs2 : Sh (sI (sI σ 155 x1.toNat x2) 156 x1.toNat z) := sh_I hs1 (by omega) (hs1.k (a := 156) rfl) (Or.inl (by decide))
    have := key (sI (sI σ 155 x1.toNat x2) 156 x1.toNat z) x1.toNat (by omega) 60 0 _ (by omega) (Ag.rf hs2) rfl (fun j => by rw [if_neg (by omega)]) (fun σ' hA hI hj => hq4 hr hr2 hr3 σ' ((((Ag.rf hs).sI hs1 (Or.inl rfl)).sI hs2 (Or.inr (Or.inl rfl))).tr hA (fun _ h => h) (fun _ h => Or.inr (Or.inr h))) (fun t => ?_) (fun t => ?_) (fun j => ?_))
    · rw [show ((x1.toNat : Nat) : Int) = x1 by omega] at this
      exact this
    · rw [hI, sI_at, if_neg (by omega), sI_at]; simp
    · rw [hI, sI_at, sI_at, ← hz]; simp
    · rw [hj]; rfl
  refine C_X11_tape hs (c_isTape hs h1 ⟨_, rfl, hs, fun h => hq1 (by simpa using h), fun h => ?_⟩)
  have hr : 0 ≤ x1 ∧ x1 ≤ 5 := by simpa using h
  refine c_within hs h2 (by decide) (by decide) ⟨_, rfl, hs, fun h => hq2 hr (Or.inl (by simpa using h)), fun h => ?_⟩
  have hr2 : -1 ≤ x2 ∧ x2 ≤ 4 := by simpa using h
  refine ⟨h2, fun h4 => ⟨by omega, by omega, fun h5 => absurd h5 (by omega), fun h5 => fin hr hr2 (Or.inl (by omega)) 0 (by rw [if_pos (by omega)])⟩, fun h4 => ⟨h3, fun h6 => ⟨fun h7 => ⟨by omega, by omega, fun h8 => fin hr hr2 (Or.inr (by omega)) x3 (by rw [if_neg (by omega)]), fun h8 => absurd h8 (by omega)⟩, fun h7 => hq3 hr (by omega) (by omega)⟩, fun h6 => hq2 hr (Or.inr (by omega))⟩⟩
theorem op_tape (hs : Sh σ) (hE : InvE σ) {x1 x2 x3 : Int} (h1 : -2147483648 ≤ x1 ∧ x1 ≤ 2147483647) (h2 : -2147483648 ≤ x2 ∧ x2 ≤ 2147483647) (h3 : -2147483648 ≤ x3 ∧ x3 ≤ 2147483647) : BothI X (d + 2) MX10_tape MX11_tape [vI x1, vI x2, vI x3] σ (fun σ2 => Ag DE σ σ2 ∧ InvE σ2) := by
  refine x_tape hs hE h1 h2 h3 (fun a1 => ⟨_, rfl, hs, by decide, ?_⟩) (fun a1 a2 => ⟨_, rfl, hs, by decide, ?_⟩) (fun a1 a2 a3 => ⟨_, rfl, hs, by decide, ?_⟩) (fun a1 a2 a3 σ1 hA e1 e2 e3 => ⟨_, rfl, hA.1, by decide, ?_⟩)
  · exact m_tape hs h1 h2 h3 (fun _ => ⟨rfl, Ag.rf hs, hE⟩) (fun b => absurd b a1) (fun b => absurd b a1) (fun b => absurd b a1)
  · refine m_tape hs h1 h2 h3 (fun b => absurd a1 b) (fun _ _ => ⟨rfl, Ag.rf hs, hE⟩) (fun _ _ _ => ?_) (fun _ _ _ => ?_)
    · omega
    · omega
  · refine m_tape hs h1 h2 h3 (fun b => absurd a1 b) (fun _ _ => ?_) (fun _ _ _ => ⟨rfl, Ag.rf hs, hE⟩) (fun _ _ _ => ?_)
    · omega
    · omega
  · refine m_tape hA.1 h1 h2 h3 (fun b => absurd a1 b) (fun _ _ => ?_) (fun _ _ _ => ?_) (fun _ _ _ σ2 hB f1 f2 f3 => ⟨rfl, hA.tr hB ?_ ?_, ?_⟩)
    · omega
    · omega
    · rintro a (rfl | rfl) <;> (unfold DE; omega)
    · rintro a (rfl | rfl | rfl) <;> (unfold DE; omega)
    · intro t ht
      obtain ⟨g1, g2, ⟨g3, g4⟩, g5⟩ := hE t ht
      have nb : ∀ a, a < 155 → ¬ (a = 155 ∨ a = 156 ∨ a = 157) := fun a h => by omega
      rw [f1, f2]
      by_cases hz : t = x1.toNat
      · subst hz
        rw [if_pos rfl, if_pos rfl, hB.i (nb _ (by omega)), hB.i (nb _ (by omega)), e1, e2]
        refine ⟨a2, by split <;> omega, ⟨rfl, rfl⟩, fun i hi => ?_⟩
        rw [hB.l (nb _ (by omega)), e3 i hi, f3, if_pos (by omega)]
      · have na : ∀ a, a ≠ 113 + 2 * x1.toNat → a ≠ 113 + 2 * x1.toNat + 1 → ¬ (a = 113 + 2 * x1.toNat ∨ a = 113 + 2 * x1.toNat + 1) := fun a p q r => r.elim p q
        rw [if_neg hz, if_neg hz, hB.i (nb (113 + 2 * t) (by omega)), hB.i (nb (113 + 2 * t) (by omega)), hA.i (na (113 + 2 * t) (by omega) (by omega)), hA.i (na (113 + 2 * t) (by omega) (by omega)), hA.i (na 155 (by omega) (by omega)), hA.i (na 156 (by omega) (by omega))]
        refine ⟨g1, g2, ⟨g3, g4⟩, fun i hi => ?_⟩
        rw [hB.l (nb (113 + 2 * t + 1) (by omega)), hA.l (na (113 + 2 * t + 1) (by omega) (by omega)), f3, if_neg (by omega), hA.l (na 157 (by omega) (by omega))]
        exact g5 i hi
end TAPEOP
