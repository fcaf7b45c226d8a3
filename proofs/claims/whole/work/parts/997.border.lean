/-! BORDER, 17: the operation -/
def DGm (nb c00 : Nat) : Nat → Nat → Prop := fun a k => (a = 125 ∧ (k = 12 ∨ (14 ≤ k ∧ k ≤ 17) ∨ k = 26)) ∨ (a = 141 ∧ c00 ≤ k) ∨ (137 ≤ a ∧ a ≤ 140 ∧ 10 * nb ≤ k)
def DSm (nb c00 : Nat) : Nat → Nat → Prop := fun a k => (a = 125 ∧ (k = 12 ∨ (14 ≤ k ∧ k ≤ 19) ∨ k = 26)) ∨ (a = 141 ∧ c00 ≤ k) ∨ (137 ≤ a ∧ a ≤ 140 ∧ 10 * nb ≤ k) ∨ (a = 136 ∧ k = nb)
def DNb (nb c00 : Nat) : Nat → Nat → Prop := fun a k => DTx (85 + 3 * nb) a k ∨ DGm nb c00 a k
def DYb (nb c00 : Nat) : Nat → Nat → Prop := fun a k => DTx (85 + 3 * nb) a k ∨ (a = 83 ∧ k = 1) ∨ (a = 1 ∧ k = 8) ∨ DSm nb c00 a k
section BORD
variable {X : mX} {d : Nat} {σ : mS} {Q : Option mV → mS → Prop} {T : Nat → Int} {n nb c00 : Nat}
theorem m_border (hs : Sh σ) (hn100 : n ≤ 100) (h12 : σ.2.1 125 12 = n) (hT : ∀ i, i < n → σ.2.1 135 i = T i) (hT2 : ∀ i, i < n → 0 ≤ T i ∧ T i ≤ 127) (hnb : nb ≤ 5) (h18 : σ.2.1 125 18 = nb) (h26 : σ.2.1 125 26 = c00) (hc : c00 ≤ 500)
    (hy : (pCs T n 10 0).1 = true → ∀ (σ' : mS) (c1 : Nat), Agk (DSm nb c00) σ σ' → σ'.2.1 125 12 = 0 → σ'.2.1 125 19 = nb → σ'.2.1 125 18 = (nb : Int) + 1 → σ'.2.1 125 26 = c1 → c1 ≤ c00 + 100 → c00 ≤ c1 → σ'.2.1 136 nb = (pCs T n 10 0).2.2.length → CM nb (pCs T n 10 0).2.2 σ'.2.1 → Q (some (vI (nb : Int))) σ')
    (hn : (pCs T n 10 0).1 = false → ∀ σ' : mS, Agk (DGm nb c00) σ σ' → σ'.2.1 125 12 = 0 → σ'.2.1 125 26 = c00 → Q (some (vI ((-10) - ((pCs T n 10 0).2.1 : Int)))) σ') : CALL X (d + 23) (0, 0) MX11_border [vP (some 125)] σ Q := by
  have s0 : Sh (sI σ 125 14 0) := sh_I hs (by decide) (hs.k (a := 125) rfl) (Or.inl (by decide))
  have hN : PN T n 0 (sI σ 125 14 0) := by
    refine ⟨s0, hn100, by omega, ?_, ?_, fun i hi => ?_, hT2⟩
    · rw [sI_at, if_neg (by omega)]; exact h12
    · rw [sI_at, if_pos ⟨rfl, rfl⟩]; rfl
    · rw [sI_at, if_neg (by omega)]; exact hT i hi
  have A0 : Agk (DLm nb c00) σ (sI σ 125 14 0) := (Agk.rf hs).sI s0 (Or.inl ⟨rfl, Or.inl (by decide)⟩)
  have q18 : (sI σ 125 14 0).2.1 125 18 = nb := by rw [sI_at, if_neg (by omega)]; exact h18
  have q26 : (sI σ 125 14 0).2.1 125 26 = c00 := by rw [sI_at, if_neg (by omega)]; exact h26
  refine C_X11_border (d := d + 22) hs ⟨fun _ => ?_, fun q => absurd q (by omega)⟩
  rw [h26]
  refine m_texts (d := d) (c00 := c00) hnb (x1 := (c00 : Int)) 10 0 c00 [] _ hN q18 q26 (by omega) (by omega) hc (fun i hi => absurd hi (by simp)) rfl (fun u σ1 c1 r1 r2 r3 r4 r5 => ?_) (fun u σ1 x2 r1 r2 => ?_)
  · rw [List.nil_append] at r4 ⊢
    obtain ⟨⟨l1, l2⟩, _⟩ := pCs_ok hn100 10 0 u
    have s1 : Sh (sI σ1 125 12 0) := sh_I r5.1 (by decide) (r5.1.k (a := 125) rfl) (Or.inl (by decide))
    have s2 : Sh (sI (sI σ1 125 12 0) 136 nb ((pCs T n 10 0).2.2.length : Int)) := sh_I s1 (by omega) (s1.k (a := 136) rfl) (Or.inl (by decide))
    have s3 : Sh (sI (sI (sI σ1 125 12 0) 136 nb ((pCs T n 10 0).2.2.length : Int)) 125 19 (nb : Int)) := sh_I s2 (by omega) (s2.k (a := 125) rfl) (Or.inl (by decide))
    have s4 : Sh (sI (sI (sI (sI σ1 125 12 0) 136 nb ((pCs T n 10 0).2.2.length : Int)) 125 19 (nb : Int)) 125 18 ((nb : Int) + 1)) := sh_I s3 (by omega) (s3.k (a := 125) rfl) (Or.inl (by decide))
    have ef : ∀ b j, (sI (sI (sI (sI σ1 125 12 0) 136 nb ((pCs T n 10 0).2.2.length : Int)) 125 19 (nb : Int)) 125 18 ((nb : Int) + 1)).2.1 b j = if b = 125 ∧ j = 18 then (nb : Int) + 1 else if b = 125 ∧ j = 19 then (nb : Int) else if b = 136 ∧ j = nb then ((pCs T n 10 0).2.2.length : Int) else if b = 125 ∧ j = 12 then 0 else σ1.2.1 b j := fun _ _ => rfl
    have e18 : (sI σ1 125 12 0).2.1 125 18 = nb := by rw [sI_at, if_neg (by omega), r5.2.2 125 18 (by unfold DLm; omega)]; exact q18
    have e18b : (sI (sI σ1 125 12 0) 136 nb ((pCs T n 10 0).2.2.length : Int)).2.1 125 18 = nb := by rw [sI_at, if_neg (by omega)]; exact e18
    have e18c : (sI (sI (sI σ1 125 12 0) 136 nb ((pCs T n 10 0).2.2.length : Int)) 125 19 (nb : Int)).2.1 125 18 = nb := by rw [sI_at, if_neg (by omega)]; exact e18b
    have up : ∀ a k, DLm nb c00 a k → DSm nb c00 a k := by
      intro a k h
      unfold DLm at h
      unfold DSm
      omega
    have A4 : Agk (DSm nb c00) σ (sI (sI (sI (sI σ1 125 12 0) 136 nb ((pCs T n 10 0).2.2.length : Int)) 125 19 (nb : Int)) 125 18 ((nb : Int) + 1)) := (((((A0.tr r5 (fun _ _ h => h) (fun _ _ h => h)).mono up).sI s1 (Or.inl ⟨rfl, Or.inl rfl⟩)).sI s2 (Or.inr (Or.inr (Or.inr ⟨rfl, rfl⟩)))).sI s3 (Or.inl ⟨rfl, Or.inr (Or.inl (by decide))⟩)).sI s4 (Or.inl ⟨rfl, Or.inr (Or.inl (by decide))⟩)
    refine C_X11_border_123 (d := d + 22) r5.1 ⟨by decide, fun _ => ?_, fun q => absurd q (by decide)⟩
    rw [e18, Int.toNat_natCast, e18b, e18c]
    refine ⟨by omega, by omega, by omega, by omega, hy u _ c1 A4 ?_ ?_ ?_ ?_ r2 r3 ?_ (fun i hi => ?_)⟩
    · rw [ef, if_neg (by omega), if_neg (by omega), if_neg (by omega), if_pos ⟨rfl, rfl⟩]
    · rw [ef, if_neg (by omega), if_pos ⟨rfl, rfl⟩]
    · rw [ef, if_pos ⟨rfl, rfl⟩]
    · rw [ef, if_neg (by omega), if_neg (by omega), if_neg (by omega), if_neg (by omega)]; exact r1
    · rw [ef, if_neg (by omega), if_neg (by omega), if_pos ⟨rfl, rfl⟩]
    · have nd : ∀ b j, (137 ≤ b ∧ b ≤ 141) ∨ (b = 125 ∧ j = 26) → (sI (sI (sI (sI σ1 125 12 0) 136 nb ((pCs T n 10 0).2.2.length : Int)) 125 19 (nb : Int)) 125 18 ((nb : Int) + 1)).2.1 b j = σ1.2.1 b j := fun b j h => by
        rw [ef, if_neg (by omega), if_neg (by omega), if_neg (by omega), if_neg (by omega)]
      obtain ⟨b0, b1, b2, b3, b4, b5⟩ := r4 i hi
      rw [nd 137 _ (by omega), nd 138 _ (by omega), nd 139 _ (by omega), nd 140 _ (by omega), nd 125 26 (by omega)]
      exact ⟨b0, b1, b2, b3, b4, fun j hj => by rw [nd 141 _ (by omega)]; exact b5 j hj⟩
  · have s1 : Sh (sI σ1 125 12 0) := sh_I r2.1 (by decide) (r2.1.k (a := 125) rfl) (Or.inl (by decide))
    have s2 : Sh (sI (sI σ1 125 12 0) 125 26 (c00 : Int)) := sh_I s1 (by omega) (s1.k (a := 125) rfl) (Or.inl (by decide))
    have up : ∀ a k, DLm nb c00 a k → DGm nb c00 a k := by
      intro a k h
      unfold DLm at h
      unfold DGm
      omega
    have A2 : Agk (DGm nb c00) σ (sI (sI σ1 125 12 0) 125 26 (c00 : Int)) := (((A0.tr r2 (fun _ _ h => h) (fun _ _ h => h)).mono up).sI s1 (Or.inl ⟨rfl, Or.inl rfl⟩)).sI s2 (Or.inl ⟨rfl, Or.inr (Or.inr rfl)⟩)
    have e14 : (sI (sI σ1 125 12 0) 125 26 (c00 : Int)).2.1 125 14 = ((pCs T n 10 0).2.1 : Int) := by rw [sI_at, if_neg (by omega), sI_at, if_neg (by omega)]; exact r1
    refine C_X11_border_123 (d := d + 22) r2.1 ⟨by decide, fun q => absurd rfl q, fun _ => ⟨by omega, ?_⟩⟩
    rw [e14]
    refine hn u _ A2 ?_ ?_
    · rw [sI_at, if_neg (by omega), sI_at, if_pos ⟨rfl, rfl⟩]
    · rw [sI_at, if_pos ⟨rfl, rfl⟩]
/-- the borders that were there stay -/
theorem InvB.oldB {D : Nat → Nat → Prop} {σ' : mS} (h : InvB σ) (h18 : σ.2.1 125 18 = nb) (h26 : σ.2.1 125 26 = c00) (hA : Agk D σ σ') (hD : ∀ a k, D a k → ¬ (85 ≤ a ∧ a < 85 + 3 * nb) ∧ (a = 136 → nb ≤ k) ∧ ((137 ≤ a ∧ a ≤ 140) → 10 * nb ≤ k) ∧ (a = 141 → c00 ≤ k)) (hc : (c00 : Int) ≤ σ'.2.1 125 26) : ∀ b : Nat, b < nb → ∃ B : List mCl, (1 ≤ B.length ∧ B.length ≤ 10) ∧ (∀ c ∈ B, okC c) ∧ RepM σ'.2.1 b B ∧ RepX σ'.2.1 b B := by
  intro b hb
  obtain ⟨_, _, _, h4⟩ := h
  obtain ⟨B, k1, k2, k3, k4⟩ := h4 b (by omega)
  have nd : ∀ a k, ¬ (¬ (85 ≤ a ∧ a < 85 + 3 * nb) ∧ (a = 136 → nb ≤ k) ∧ ((137 ≤ a ∧ a ≤ 140) → 10 * nb ≤ k) ∧ (a = 141 → c00 ≤ k)) → σ'.2.1 a k = σ.2.1 a k := fun a k h => hA.2.2 a k (fun q => h (hD a k q))
  refine ⟨B, k1, k2, ⟨?_, fun i hi => ?_⟩, ?_⟩
  · rw [nd 136 b (fun q => absurd (q.2.1 rfl) (by omega))]
    exact k3.1
  · obtain ⟨b0, b1, b2, b3, b4, b5⟩ := k3.2 i hi
    have n5 : ∀ a, 137 ≤ a ∧ a ≤ 140 → σ'.2.1 a (10 * b + i) = σ.2.1 a (10 * b + i) := fun a ha => nd a _ (fun q => absurd (q.2.2.1 ha) (by omega))
    rw [n5 137 (by decide), n5 138 (by decide), n5 139 (by decide), n5 140 (by decide)]
    refine ⟨b0, b1, b2, b3, by omega, fun j hj => ?_⟩
    rw [nd 141 _ (fun q => absurd (q.2.2.2 rfl) (by omega))]
    exact b5 j hj
  · have ne : ∀ a, 85 ≤ a ∧ a < 85 + 3 * nb → σ'.2.1 a = σ.2.1 a := fun a h => funext fun k => nd a k (fun q => q.1 h)
    unfold RepX
    rw [ne (85 + 3 * b) (by omega), ne (85 + 3 * b + 1) (by omega)]
    exact k4
theorem WFY.rise {b b' : Int} {Y : mY} (h : WFY b Y) (hb : b ≤ b') : WFY b' Y := ⟨h.1, h.2.1, h.2.2.1, ⟨h.2.2.2.1.1, Int.lt_of_lt_of_le h.2.2.2.1.2 hb⟩, h.2.2.2.2⟩
/-- no border made: the text is gone, that is all -/
theorem Inv.noBorder {σ' : mS} (hi : Inv σ) (hnb : nb ≤ 5) (h18 : σ.2.1 125 18 = nb) (h26 : σ.2.1 125 26 = c00) (hA : Agk (DNb nb c00) σ σ') (e1 : σ'.2.1 108 1 = 0) (e12 : σ'.2.1 125 12 = 0) (e26 : σ'.2.1 125 26 = c00) : Inv σ' := by
  have hB := hi.2.2.2.1
  have q83 : σ'.2.1 83 1 = σ.2.1 83 1 := hA.2.2 _ _ (by unfold DNb DTx DGm; omega)
  have q18 : σ'.2.1 125 18 = σ.2.1 125 18 := hA.2.2 _ _ (by unfold DNb DTx DGm; omega)
  refine ⟨hA.1, hi.2.1.fr hA (fun a k h => by unfold DNb DTx DGm at h; unfold FYm FYx; omega), hi.2.2.1.fr hA (fun a k h => by unfold DNb DTx DGm at h; unfold FYx; omega), ⟨?_, ?_, ?_, fun b hb => ?_⟩, ⟨by omega, by omega, fun i hi => absurd hi (by omega)⟩, hi.2.2.2.2.2.1.fr hA (fun a k h => by unfold DNb DTx DGm at h; omega), hi.2.2.2.2.2.2.fr hA (fun a k h => by unfold DNb DTx DGm at h; omega)⟩
  · rw [q18]; exact hB.1
  · rw [q83, q18]; exact hB.2.1
  · rw [q18, e26, ← h26]; exact hB.2.2.1
  · rw [q18, h18] at hb
    exact hB.oldB h18 h26 hA (fun a k h => by unfold DNb DTx DGm at h; omega) (by omega) b (by omega)
/-- one border more, and it is held -/
theorem Inv.oneBorder {σ' : mS} {B : List mCl} {c1 : Nat} (hi : Inv σ) (hnb : nb ≤ 5) (h18 : σ.2.1 125 18 = nb) (h26 : σ.2.1 125 26 = c00) (hA : Agk (DYb nb c00) σ σ') (e1 : σ'.2.1 108 1 = 0) (e12 : σ'.2.1 125 12 = 0) (e83 : σ'.2.1 83 1 = (nb : Int) + 1) (e8 : σ'.2.1 1 8 = nb) (e19 : σ'.2.1 125 19 = nb) (e18 : σ'.2.1 125 18 = (nb : Int) + 1) (e26 : σ'.2.1 125 26 = c1) (hc1 : c1 ≤ c00 + 100) (hc2 : c00 ≤ c1)
    (hl : 1 ≤ B.length ∧ B.length ≤ 10) (hok : ∀ c ∈ B, okC c) (hM : RepM σ'.2.1 nb B) (hX : RepX σ'.2.1 nb B) : Inv σ' := by
  have hB := hi.2.2.2.1
  obtain ⟨y1, y2, y3⟩ := hi.2.1
  have nd : ∀ a k, ¬ DYb nb c00 a k → σ'.2.1 a k = σ.2.1 a k := hA.2.2
  have fm : ∀ a k, FYm a k → ¬ (a = 125 ∧ (k = 18 ∨ k = 19)) → σ'.2.1 a k = σ.2.1 a k := fun a k h g => nd a k (by unfold FYm at h; unfold DYb DTx DSm; omega)
  refine ⟨hA.1, ⟨?_, ?_, ?_⟩, ?_, ⟨?_, ?_, ?_, fun b hb => ?_⟩, ⟨by omega, by omega, fun i hi => absurd hi (by omega)⟩, hi.2.2.2.2.2.1.fr hA (fun a k h => by unfold DYb DTx DSm at h; omega), hi.2.2.2.2.2.2.fr hA (fun a k h => by unfold DYb DTx DSm at h; omega)⟩
  · refine y1.sets (fun a k => a = 125 ∧ k = 19) (fun a k h => Or.inl ⟨h.1, Or.inr (Or.inr (Or.inr (Or.inl h.2)))⟩) (fun k h => absurd h.1 (by decide)) (fun a k h => ?_) (fun a k h1 h2 => ?_) (fun a k h1 h2 => ?_)
    · obtain ⟨rfl, rfl⟩ := h
      show σ'.2.1 1 8 = σ'.2.1 125 19
      rw [e8, e19]
    · have h3 := h2 125 19 ⟨rfl, rfl⟩
      have h3 : ¬ (a = 1 ∧ k = 8) := h3
      exact nd a k (by unfold FYx at h1; unfold DYb DTx DSm; omega)
    · have h4 : ¬ (a = 125 ∧ k = 19) := h2
      refine fm a k (vp_F h1) ?_
      rcases h1 with ⟨_, h⟩ | ⟨h, _⟩ | ⟨h, _⟩ | ⟨h, _⟩ | ⟨h, _⟩ | ⟨h, _⟩ <;> omega
  · have w := y2.rise (b' := σ'.2.1 125 18) (by omega)
    have ea : ∀ a, (126 ≤ a ∧ a ≤ 134) ∨ (143 ≤ a ∧ a ≤ 149) → σ'.2.1 a = σ.2.1 a := fun a ha => funext fun k => fm a k (by unfold FYm; omega) (by omega)
    have e0 := fm 125 0 (by unfold FYm; omega) (by omega)
    have e6 := fm 125 6 (by unfold FYm; omega) (by omega)
    have e11 := fm 125 11 (by unfold FYm; omega) (by omega)
    have e28 := fm 125 28 (by unfold FYm; omega) (by omega)
    have e32 := fm 125 32 (by unfold FYm; omega) (by omega)
    have e35 := fm 125 35 (by unfold FYm; omega) (by omega)
    have a139 := ea 126 (by omega)
    have a140 := ea 127 (by omega)
    have a141 := ea 128 (by omega)
    have a142 := ea 129 (by omega)
    have a143 := ea 130 (by omega)
    have a144 := ea 131 (by omega)
    have a145 := ea 132 (by omega)
    have a146 := ea 133 (by omega)
    have a147 := ea 134 (by omega)
    have a156 := ea 143 (by omega)
    have a157 := ea 144 (by omega)
    have a158 := ea 145 (by omega)
    have a159 := ea 146 (by omega)
    have a160 := ea 147 (by omega)
    have a161 := ea 148 (by omega)
    have a162 := ea 149 (by omega)
    unfold WFY at w ⊢
    rw [e0, e6, e11, e28, e32, e35, a139, a140, a141, a142, a143, a144, a145, a146, a147, a156, a157, a158, a159, a160, a161, a162]
    exact ⟨w.1, w.2.1, w.2.2.1, ⟨by omega, by omega⟩, w.2.2.2.2⟩
  · rw [fm 125 11 (by unfold FYm; omega) (by omega)]; exact y3
  · obtain ⟨h1, h2, h3⟩ := hi.2.2.1
    have e164 : σ'.2.1 151 = σ.2.1 151 := funext fun k => nd 151 k (by unfold DYb DTx DSm; omega)
    have im := imgV_cg e164
    unfold InvI
    rw [nd 0 8 (by unfold DYb DTx DSm; omega), nd 125 40 (by unfold DYb DTx DSm; omega), im 125 11 (by unfold FYm; omega) (by omega)]
    refine ⟨h1, h2, fun h4 => ?_⟩
    obtain ⟨k1, k2, k3⟩ := h3 h4
    exact ⟨k1.cg' (fun a k q => nd a k (by unfold FYx at q; unfold DYb DTx DSm; omega)) im, (k2.rise (by omega)).cg' im, k3⟩
  · omega
  · omega
  · have := hB.2.2.1; omega
  · by_cases hb2 : b < nb
    · exact hB.oldB h18 h26 hA (fun a k h => by unfold DYb DTx DSm at h; omega) (by omega) b hb2
    · have : b = nb := by omega
      subst this
      exact ⟨B, hl, hok, hM, hX⟩
end BORD
