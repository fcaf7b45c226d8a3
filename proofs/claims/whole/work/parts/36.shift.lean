/-! shift -/
section SHIFT
variable {X : mX} {d : Nat} {σ : mS} {Q : Option mV → mS → Prop}
theorem jcmp_pos {x y : Int} : 0 < jcmp x y ↔ y < x := by
  unfold jcmp
  split
  · constructor <;> intro h <;> omega
  · split <;> (constructor <;> intro h <;> omega)
theorem jcmp_le {x y : Int} : jcmp x y ≤ 0 ↔ x ≤ y := by
  unfold jcmp
  split
  · constructor <;> intro h <;> omega
  · split <;> (constructor <;> intro h <;> omega)
/-- the row of items behind a run of n from s to t -/
def runL (f : Nat → Int) (s t n : Nat) : Nat → Int := fun j => if t ≤ j ∧ j < t + n then f (s + (j - t)) else f j
theorem m_shift_f (hs : Sh σ) {x1 x2 x3 x4 x5 : Int} {s t n : Nat} (h5 : x5 = (n : Int)) (es : 60 * x1 + x2 = (s : Int)) (et : 60 * x3 + x4 = (t : Int)) (hsn : s + n ≤ 360) (htn : t + n ≤ 360) (hd : t ≤ s ∨ s + n ≤ t)
    (hq : ∀ σ', Ag (fun q => q = 157) σ σ' → (∀ j, σ'.2.2.1 157 j = runL (σ.2.2.1 157) s t n j) → σ'.2.1 = σ.2.1 → Q (some (vI x5)) σ') : WP X (d + 1) (0, 0) MX11_shift 170 [(0, vP (some 125)), (1, vI x1), (2, vI x2), (3, vI x3), (4, vI x4), (5, vI x5), (6, vI 0)] [] σ Q := by
  have key : ∀ (m i : Nat) (σ1 : mS), i + m = n → Ag (fun q => q = 157) σ σ1 → σ1.2.1 = σ.2.1 → (∀ j, σ1.2.2.1 157 j = runL (σ.2.2.1 157) s t i j) → WP X (d + 1) (0, 0) MX11_shift 170 [(0, vP (some 125)), (1, vI x1), (2, vI x2), (3, vI x3), (4, vI x4), (5, vI x5), (6, vI (i : Int))] [] σ1 Q := by
    intro m
    induction m with
    | zero =>
      intro i σ1 hi hA hI hz
      obtain rfl : i = n := by omega
      exact C_X11_shift_170 hA.1 ⟨by omega, by omega, fun _ => hq σ1 hA hz hI, fun h => absurd h (by omega)⟩
    | succ m ih =>
      intro i σ1 hi hA hI hz
      refine C_X11_shift_170 hA.1 ⟨by omega, by omega, fun h => absurd h (by omega), fun _ => ⟨by omega, by omega, by omega, by omega, ?_⟩⟩
      rw [show (60 * x3 + x4 + (i : Int)).toNat = t + i by omega, show (60 * x1 + x2 + (i : Int)).toNat = s + i by omega, show (i : Int) + 1 = ((i + 1 : Nat) : Int) by omega]
      refine ih (i + 1) _ (by omega) (hA.sL (sh_L hA.1 (hA.1.2.2.2.1 _ _)) rfl) hI (fun j => ?_)
      rw [sL_at, hz j, hz (s + i)]
      unfold runL
      rw [if_neg (show ¬ (t ≤ s + i ∧ s + i < t + i) by omega)]
      by_cases hj : j = t + i
      · rw [if_pos ⟨rfl, hj⟩, if_pos (by omega), hj, show s + (t + i - t) = s + i by omega]
      · rw [if_neg (fun h => hj h.2)]
        by_cases h6 : t ≤ j ∧ j < t + i
        · rw [if_pos h6, if_pos (by omega)]
        · rw [if_neg h6, if_neg (by omega)]
  exact key n 0 σ (by omega) (Ag.rf hs) rfl (fun j => by unfold runL; rw [if_neg (by omega)])
theorem m_shift_b (hs : Sh σ) {x1 x2 x3 x4 x5 : Int} {s t n : Nat} (h5 : x5 = (n : Int)) (es : 60 * x1 + x2 = (s : Int)) (et : 60 * x3 + x4 = (t : Int)) (hsn : s + n ≤ 360) (htn : t + n ≤ 360) (hd : s ≤ t)
    (hq : ∀ σ', Ag (fun q => q = 157) σ σ' → (∀ j, σ'.2.2.1 157 j = runL (σ.2.2.1 157) s t n j) → σ'.2.1 = σ.2.1 → Q (some (vI x5)) σ') : WP X (d + 1) (0, 0) MX11_shift 124 [(0, vP (some 125)), (1, vI x1), (2, vI x2), (3, vI x3), (4, vI x4), (5, vI x5), (6, vI (x5 - 1))] [] σ Q := by
  have key : ∀ (m : Nat) (σ1 : mS), m ≤ n → Ag (fun q => q = 157) σ σ1 → σ1.2.1 = σ.2.1 → (∀ j, σ1.2.2.1 157 j = runL (σ.2.2.1 157) (s + m) (t + m) (n - m) j) → WP X (d + 1) (0, 0) MX11_shift 124 [(0, vP (some 125)), (1, vI x1), (2, vI x2), (3, vI x3), (4, vI x4), (5, vI x5), (6, vI ((m : Int) - 1))] [] σ1 Q := by
    intro m
    induction m with
    | zero =>
      intro σ1 hm hA hI hz
      exact C_X11_shift_124 hA.1 ⟨by omega, fun _ => hq σ1 hA hz hI, fun h => absurd h (by omega)⟩
    | succ i ih =>
      intro σ1 hm hA hI hz
      refine C_X11_shift_124 hA.1 ⟨by omega, fun h => absurd h (by omega), fun _ => ⟨by omega, by omega, by omega, by omega, ?_⟩⟩
      rw [show (60 * x3 + x4 + (((i + 1 : Nat) : Int) - 1)).toNat = t + i by omega, show (60 * x1 + x2 + (((i + 1 : Nat) : Int) - 1)).toNat = s + i by omega, show ((i + 1 : Nat) : Int) - 1 + (-1) = (i : Int) - 1 by omega]
      refine ih _ (by omega) (hA.sL (sh_L hA.1 (hA.1.2.2.2.1 _ _)) rfl) hI (fun j => ?_)
      rw [sL_at, hz j, hz (s + i)]
      unfold runL
      rw [if_neg (show ¬ (t + (i + 1) ≤ s + i ∧ s + i < t + (i + 1) + (n - (i + 1))) by omega)]
      by_cases hj : j = t + i
      · rw [if_pos ⟨rfl, hj⟩, if_pos (by omega), hj, show s + i + (t + i - (t + i)) = s + i by omega]
      · rw [if_neg (fun h => hj h.2)]
        by_cases h6 : t + (i + 1) ≤ j ∧ j < t + (i + 1) + (n - (i + 1))
        · rw [if_pos h6, if_pos (by omega), show s + (i + 1) + (j - (t + (i + 1))) = s + i + (j - (t + i)) by omega]
        · rw [if_neg h6, if_neg (by omega)]
  have := key n σ (by omega) (Ag.rf hs) rfl (fun j => by unfold runL; rw [if_neg (by omega)])
  rw [h5]
  rw [h5] at this
  exact this
theorem m_shift (hs : Sh σ) {x1 x2 x3 x4 x5 : Int} (h1 : -2147483648 ≤ x1 ∧ x1 ≤ 2147483647) (h2 : -2147483648 ≤ x2 ∧ x2 ≤ 2147483647) (h3 : -2147483648 ≤ x3 ∧ x3 ≤ 2147483647) (h4 : -2147483648 ≤ x4 ∧ x4 ≤ 2147483647) (h5 : -2147483648 ≤ x5 ∧ x5 ≤ 2147483647) (hr : 0 ≤ x1 ∧ x1 ≤ 5) (hr3 : 0 ≤ x3 ∧ x3 ≤ 5) (g2 : 0 ≤ σ.2.1 156 x1.toNat ∧ σ.2.1 156 x1.toNat ≤ 60) (f2 : 0 ≤ σ.2.1 156 x3.toNat ∧ σ.2.1 156 x3.toNat ≤ 60)
    (k1 : σ.2.1 155 x1.toNat < 0 ∨ σ.2.1 155 x3.toNat < 0 → Q (some (vI (-11))) σ)
    (k2 : 0 ≤ σ.2.1 155 x1.toNat → 0 ≤ σ.2.1 155 x3.toNat → σ.2.1 155 x1.toNat ≠ σ.2.1 155 x3.toNat → Q (some (vI (-12))) σ)
    (k3 : 0 ≤ σ.2.1 155 x1.toNat → 0 ≤ σ.2.1 155 x3.toNat → σ.2.1 155 x1.toNat = σ.2.1 155 x3.toNat → ¬ (0 ≤ x2 ∧ 0 ≤ x5 ∧ x2 + x5 ≤ σ.2.1 156 x1.toNat) ∨ ¬ (0 ≤ x4 ∧ 0 ≤ x5 ∧ x4 + x5 ≤ σ.2.1 156 x3.toNat) → Q (some (vI (-13))) σ)
    (k4 : 0 ≤ σ.2.1 155 x1.toNat → 0 ≤ σ.2.1 155 x3.toNat → σ.2.1 155 x1.toNat = σ.2.1 155 x3.toNat → 0 ≤ x2 ∧ 0 ≤ x5 ∧ x2 + x5 ≤ σ.2.1 156 x1.toNat → 0 ≤ x4 ∧ 0 ≤ x5 ∧ x4 + x5 ≤ σ.2.1 156 x3.toNat → ∀ σ', Ag (fun q => q = 157) σ σ' → (∀ j, σ'.2.2.1 157 j = runL (σ.2.2.1 157) (60 * x1 + x2).toNat (60 * x3 + x4).toNat x5.toNat j) → σ'.2.1 = σ.2.1 → Q (some (vI x5)) σ') :CALL X (d + 2) (0, 0) MX11_shift [vP (some 125), vI x1, vI x2, vI x3, vI x4, vI x5] σ Q := by
  refine C_X11_shift hs (c_isTape hs h1 ⟨_, rfl, hs, fun h => absurd hr (by simpa using h), fun _ => c_isTape hs h3 ⟨_, rfl, hs, fun h => absurd hr3 (by simpa using h), fun _ => ⟨by omega, by omega, fun h => k1 (Or.inl h), fun h => ⟨by omega, by omega, fun h' => ⟨fun h6 => ⟨h5, fun h7 => k3 (by omega) (by omega) h6 (by omega), fun h7 => ⟨h2, fun h8 => k3 (by omega) (by omega) h6 (by omega), fun h8 => ⟨h4, fun h9 => k3 (by omega) (by omega) h6 (by omega), fun h9 => ⟨by omega, fun h10 => k3 (by omega) (by omega) h6 (by have := jcmp_pos.mp h10; omega), fun h10 => ⟨by omega, fun h11 => ?_, fun h11 => k3 (by omega) (by omega) h6 (Or.inr (fun q => h11 (jcmp_le.mpr q.2.2)))⟩⟩⟩⟩⟩, fun h6 => k2 (by omega) (by omega) h6⟩, fun h' => k1 (Or.inr (by omega))⟩⟩⟩⟩)
  have h10' : x2 + x5 ≤ σ.2.1 156 x1.toNat := by
    have : ¬ (σ.2.1 156 x1.toNat < x2 + x5) := fun q => h10 (jcmp_pos.mpr q)
    omega
  have h11' := jcmp_le.mp h11
  have fin : ∀ σ', Ag (fun q => q = 157) σ σ' → (∀ j, σ'.2.2.1 157 j = runL (σ.2.2.1 157) (60 * x1 + x2).toNat (60 * x3 + x4).toNat x5.toNat j) → σ'.2.1 = σ.2.1 → Q (some (vI x5)) σ' := fun σ' p q r => k4 (by omega) (by omega) h6 (by omega) (by omega) σ' p q r
  refine ⟨h1, h3, fun h12 => m_shift_f hs (by omega) (by omega) (by omega) (by omega) (by omega) (by omega) fin, fun h12 => ⟨fun h13 => m_shift_f hs (by omega) (by omega) (by omega) (by omega) (by omega) (by omega) fin, fun h13 => m_shift_b hs (by omega) (by omega) (by omega) (by omega) (by omega) (by omega) fin⟩⟩
theorem op_shift (hs : Sh σ) (hE : InvE σ) {x1 x2 x3 x4 x5 : Int} (h1 : -2147483648 ≤ x1 ∧ x1 ≤ 2147483647) (h2 : -2147483648 ≤ x2 ∧ x2 ≤ 2147483647) (h3 : -2147483648 ≤ x3 ∧ x3 ≤ 2147483647) (h4 : -2147483648 ≤ x4 ∧ x4 ≤ 2147483647) (h5 : -2147483648 ≤ x5 ∧ x5 ≤ 2147483647) : BothI X (d + 2) MX10_shift MX11_shift [vI x1, vI x2, vI x3, vI x4, vI x5] σ (fun σ2 => Ag DE σ σ2 ∧ InvE σ2) := by
  have mno : ¬ ((0 ≤ x1 ∧ x1 ≤ 5) ∧ (0 ≤ x3 ∧ x3 ≤ 5)) → CALL X (d + 2) (0, 0) MX11_shift [vP (some 125), vI x1, vI x2, vI x3, vI x4, vI x5] σ (fun v' σ2 => v' = some (vI (-1)) ∧ Ag DE σ σ2 ∧ InvE σ2) := fun hn =>
    C_X11_shift hs (c_isTape hs h1 ⟨_, rfl, hs, fun _ => ⟨rfl, Ag.rf hs, hE⟩, fun h => c_isTape hs h3 ⟨_, rfl, hs, fun _ => ⟨rfl, Ag.rf hs, hE⟩, fun h' => absurd ⟨by simpa using h, by simpa using h'⟩ hn⟩⟩)
  refine C_X10_shift hs (c_tapeAt hs h1 ⟨_, rfl, hs, c_tapeAt hs h3 ⟨_, rfl, hs, fun hn => ⟨_, rfl, hs, by decide, mno (fun h => tAt_none hn h.1)⟩, fun a ha => ?_⟩⟩)
  obtain ⟨hT, hr, rfl⟩ := tAt_some ha
  refine ⟨hT, fun hn => ⟨_, rfl, hs, by decide, mno (fun h => tAt_none hn h.2)⟩, fun a hb => ?_⟩
  obtain ⟨hT3, hr3, rfl⟩ := tAt_some hb
  obtain ⟨g1, g2, ⟨g3, g4⟩, g5⟩ := hE x1.toNat (by omega)
  obtain ⟨f1, f2, ⟨f3, f4⟩, f5⟩ := hE x3.toNat (by omega)
  refine ⟨hT3, c_holdsT hs hT ⟨_, rfl, hs, fun h => ⟨_, rfl, hs, by decide, ?_⟩, fun h => c_holdsT hs hT3 ⟨_, rfl, hs, fun h' => ⟨_, rfl, hs, by decide, ?_⟩, fun h' => ⟨fun h6 => c_hasRun hs hT h2 h5 (by omega) ⟨_, rfl, hs, fun h7 => ⟨_, rfl, hs, by decide, ?_⟩, fun h7 => c_hasRun hs hT3 h4 h5 (by omega) ⟨_, rfl, hs, fun h8 => ⟨_, rfl, hs, by decide, ?_⟩, fun h8 => ?_⟩⟩, fun h6 => ⟨_, rfl, hs, by decide, ?_⟩⟩⟩⟩⟩
  all_goals simp only [decide_eq_true_eq, decide_eq_false_iff_not] at *
  · exact m_shift hs h1 h2 h3 h4 h5 hr hr3 ⟨g2.1, g2.2.1⟩ ⟨f2.1, f2.2.1⟩ (fun _ => ⟨rfl, Ag.rf hs, hE⟩) (by omega) (by omega) (by omega)
  · exact m_shift hs h1 h2 h3 h4 h5 hr hr3 ⟨g2.1, g2.2.1⟩ ⟨f2.1, f2.2.1⟩ (fun _ => ⟨rfl, Ag.rf hs, hE⟩) (by omega) (by omega) (by omega)
  · exact m_shift hs h1 h2 h3 h4 h5 hr hr3 ⟨g2.1, g2.2.1⟩ ⟨f2.1, f2.2.1⟩ (by omega) (by omega) (fun _ _ _ _ => ⟨rfl, Ag.rf hs, hE⟩) (by omega)
  · exact m_shift hs h1 h2 h3 h4 h5 hr hr3 ⟨g2.1, g2.2.1⟩ ⟨f2.1, f2.2.1⟩ (by omega) (by omega) (fun _ _ _ _ => ⟨rfl, Ag.rf hs, hE⟩) (by omega)
  · refine ⟨by omega, by omega, by omega, by omega, by omega, _, rfl, sh_cpL hs, h5, ?_⟩
    refine m_shift (σ := mCpL σ (113 + 2 * x1.toNat + 1) x2.toNat (113 + 2 * x3.toNat + 1) x4.toNat x5.toNat) (sh_cpL hs) h1 h2 h3 h4 h5 hr hr3 ⟨g2.1, g2.2.1⟩ ⟨f2.1, f2.2.1⟩ ?_ ?_ ?_ ?_
    · intro h9
      have h9' : σ.2.1 155 x1.toNat < 0 ∨ σ.2.1 155 x3.toNat < 0 := h9
      omega
    · intro _ _ h9
      exact absurd (show σ.2.1 155 x1.toNat = σ.2.1 155 x3.toNat by omega) h9
    · intro _ _ _ h9
      have h9' : ¬ (0 ≤ x2 ∧ 0 ≤ x5 ∧ x2 + x5 ≤ σ.2.1 156 x1.toNat) ∨ ¬ (0 ≤ x4 ∧ 0 ≤ x5 ∧ x4 + x5 ≤ σ.2.1 156 x3.toNat) := h9
      omega
    · intro _ _ _ _ _ σ' hA hj hI
      have hc : ∀ b j, (mCpL σ (113 + 2 * x1.toNat + 1) x2.toNat (113 + 2 * x3.toNat + 1) x4.toNat x5.toNat).2.2.1 b j = if b = 113 + 2 * x3.toNat + 1 ∧ x4.toNat ≤ j ∧ j < x4.toNat + x5.toNat then σ.2.2.1 (113 + 2 * x1.toNat + 1) (x2.toNat + (j - x4.toNat)) else σ.2.2.1 b j := fun _ _ => rfl
      have hB : Ag DE σ (mCpL σ (113 + 2 * x1.toNat + 1) x2.toNat (113 + 2 * x3.toNat + 1) x4.toNat x5.toNat) := by
        refine ⟨sh_cpL hs, fun a ha => ⟨rfl, ?_⟩⟩
        funext j
        rw [hc, if_neg]
        rintro ⟨rfl, _⟩
        exact ha (by unfold DE; omega)
      refine ⟨rfl, hB.tr hA (fun _ h => h) (fun a h => by unfold DE; omega), fun t ht => ?_⟩
      obtain ⟨k1, k2, ⟨k3, k4⟩, k5⟩ := hE t ht
      rw [hI]
      refine ⟨k1, k2, ⟨k3, k4⟩, fun i hi => ?_⟩
      rw [hA.l (by omega), hj, hc]
      unfold runL
      rw [hc, hc, if_neg (show ¬ (157 = 113 + 2 * x3.toNat + 1 ∧ _) by omega), if_neg (show ¬ (157 = 113 + 2 * x3.toNat + 1 ∧ _) by omega)]
      by_cases hz : t = x3.toNat ∧ x4.toNat ≤ i ∧ i < x4.toNat + x5.toNat
      · rw [if_pos (by omega), if_pos (by omega), g5 _ (by omega), show 60 * x1.toNat + (x2.toNat + (i - x4.toNat)) = (60 * x1 + x2).toNat + (60 * t + i - (60 * x3 + x4).toNat) by omega]
      · rw [if_neg (by omega), if_neg (by omega)]
        exact k5 i hi
  · exact m_shift hs h1 h2 h3 h4 h5 hr hr3 ⟨g2.1, g2.2.1⟩ ⟨f2.1, f2.2.1⟩ (by omega) (fun _ _ _ => ⟨rfl, Ag.rf hs, hE⟩) (by omega) (by omega)
end SHIFT
