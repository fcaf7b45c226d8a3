/-! image, undo -/
section IMGOP
variable {X : mX} {d : Nat} {σ : mS} {Q : Option mV → mS → Prop} {y : Nat} {Y Z : mY} {B : List mCl}
theorem YR.cgv {σ' : mS} {Y' : mY} (h : YR σ y Y) (hx : ∀ a k, vp a k → σ'.2.1 (y + (px a k).1) (px a k).2 = σ.2.1 (y + (px a k).1) (px a k).2) (hm : ∀ a k, vp a k → Y' a k = Y a k) : YR σ' y Y' := by
  refine YRp.r (fun a k hp hz => ?_)
  rw [hx a k hp, hm a k hp]
  refine h.p a k hp (fun e => ?_)
  have := hz e
  rw [hm 146 k (by subst e; unfold vp at hp ⊢; omega)] at this
  exact this
theorem WFY.cgv {nb : Int} {Y' : mY} (h : WFY nb Y) (hm : ∀ a k, vp a k → Y' a k = Y a k) : WFY nb Y' := by
  obtain ⟨h1, h2, h3, h4, h5, h6, h7, ⟨h8, h9⟩, ⟨h10, h11⟩, ⟨h12, h13⟩⟩ := h
  unfold vp at hm
  unfold WFY
  rw [hm 125 0 (by omega), hm 125 6 (by omega), hm 125 11 (by omega), hm 125 19 (by omega), hm 125 28 (by omega), hm 125 32 (by omega), hm 125 35 (by omega)]
  refine ⟨h1, h2, h3, h4, fun p hp => ?_, fun i hi => ?_, fun q hq => ?_, ⟨h8, fun i hi => ?_⟩, ⟨h10, fun i hi => ?_⟩, ⟨h12, fun i hi => ?_⟩⟩
  · rw [hm 126 p (by omega), hm 127 p (by omega), hm 128 p (by omega), hm 129 p (by omega)]
    exact h5 p hp
  · rw [hm 130 i (by omega)]
    exact h6 i hi
  · rw [hm 131 q (by omega), hm 132 q (by omega), hm 133 q (by omega), hm 134 q (by omega)]
    exact h7 q hq
  · rw [hm 143 i (by omega), hm 144 i (by omega), hm 145 i (by omega)]
    exact h9 i hi
  · rw [hm 146 i (by omega), hm 147 i (by omega)]
    exact h11 i hi
  · rw [hm 148 i (by omega), hm 149 i (by omega)]
    exact h13 i hi
theorem px_26 {a k : Nat} (h : vp a k) : (px a k).1 ≤ 26 := (px_lt h).1
theorem op_image (hi : Inv σ) : BothI X (d + 3) MX10_image MX11_image [] σ Inv := by
  have hs := hi.1
  obtain ⟨hY1, hY2, hY3⟩ := hi.2.1
  refine C_X10_image hs (c_copy hs (Or.inr (Or.inl rfl)) (Or.inl rfl) (by decide) hY1 hY2 (fun σ1 hA k1 => ⟨rfl, hA.1, ?_⟩))
  have hs2 : Sh (sI σ1 0 8 1) := sh_I hA.1 (by decide) (hA.1.k (a := 0) rfl) (Or.inl (by decide))
  refine ⟨_, rfl, hs2, hs2.2.2.1 _ _, C_X11_image hs2 ?_⟩
  have hs3 : Sh (sI (sI σ1 0 8 1) 125 40 1) := sh_I hs2 (by decide) (hs2.k (a := 125) rfl) (Or.inl (by decide))
  refine m_keep hs3 (Or.inl rfl) (fun σ4 hk => ⟨rfl, hk.2.1.1, ?_⟩)
  have n : ∀ a k, ¬ (FYx 28 a k ∨ (a = 0 ∧ k = 8) ∨ (a = 125 ∧ k = 40) ∨ a = 151) → σ4.2.1 a k = σ.2.1 a k := fun a k hn => by
    rw [hk.2.1.2.2 a k (by omega), sI_at, if_neg (by omega), sI_at, if_neg (by omega)]
    exact hA.2.2 a k (fun q => hn (Or.inl q))
  have hA4 : Agk (fun a k => FYx 28 a k ∨ (a = 0 ∧ k = 8) ∨ (a = 125 ∧ k = 40) ∨ a = 151) σ σ4 := ⟨hk.2.1.1, hk.2.1.2.1.trans hA.2.1, n⟩
  have im : ∀ a k, vp a k → imgV 151 σ4.2.1 a k = σ.2.1 a k := fun a k hv => by
    rw [imgV_im hv, hk.2.2 a k hv trivial, sI_at, if_neg (by unfold vp at hv; omega), sI_at, if_neg (by unfold vp at hv; omega)]
    exact hA.2.2 a k (by unfold vp at hv; unfold FYx; omega)
  have e0 : σ4.2.1 0 8 = 1 := by
    rw [hk.2.1.2.2 0 8 (by decide), sI_at, if_neg (by decide), sI_at, if_pos ⟨rfl, rfl⟩]
  have e40 : σ4.2.1 125 40 = 1 := by
    rw [hk.2.1.2.2 125 40 (by decide), sI_at, if_pos ⟨rfl, rfl⟩]
  refine ⟨?_, hA4.1, hi.2.1.fr hA4 (fun a k q => by unfold FYx at q; unfold FYx FYm; omega), ⟨by omega, by omega, fun _ => ⟨?_, ?_, ?_⟩⟩, hi.2.2.2.1.fr hA4 (fun a k h => by unfold FYx at h; omega), hi.2.2.2.2.1.fr hA4 (fun a k h => by unfold FYx at h; omega), hi.2.2.2.2.2.1.fr hA4 (fun a k h => by unfold FYx at h; omega), hi.2.2.2.2.2.2.fr hA4 (fun a k h => by unfold FYx at h; omega)⟩
  · rw [n 125 0 (by unfold FYx; omega), sI_at, if_neg (by omega), hA.2.2 1 5 (by unfold FYx; omega)]
    rw [hY1.1.1]
  · refine k1.cgv (fun a k hv => ?_) im
    have := px_26 hv
    rw [hk.2.1.2.2 _ _ (by omega), sI_at, if_neg (by omega), sI_at, if_neg (by omega)]
  · rw [n 125 18 (by unfold FYx; omega)]
    exact hY2.cgv im
  · rw [im 125 11 (by unfold vp; omega)]
    exact hY3
theorem op_undo (hi : Inv σ) : BothI X (d + 3) MX10_undo MX11_undo [] σ Inv := by
  have hs := hi.1
  obtain ⟨i1, i2, i3⟩ := hi.2.2.1
  refine C_X10_undo hs ⟨fun h0 => ?_, fun h0 => ⟨_, rfl, hs, by decide, C_X11_undo hs ⟨fun h => absurd h (by omega), fun _ => ⟨rfl, hi⟩⟩⟩⟩
  obtain ⟨j1, j2, j3⟩ := i3 (by omega)
  refine c_copy hs (Or.inl rfl) (Or.inr (Or.inl rfl)) (by decide) j1 j2 (fun σ1 hA k1 => ⟨rfl, hA.1, _, rfl, hA.1, hA.1.2.2.1 _ _, ?_⟩)
  have e40 : σ1.2.1 125 40 = σ.2.1 125 40 := hA.2.2 _ _ (by unfold FYx; omega)
  refine C_X11_undo hA.1 ⟨fun _ => m_again hA.1 (Or.inl rfl) (fun σ2 hk => ⟨rfl, hk.2.1.1, ?_⟩), fun h => absurd h (by omega)⟩
  have im : ∀ a k, vp a k → σ2.2.1 a k = imgV 151 σ.2.1 a k := fun a k hv => by
    rw [hk.2.2 a k hv trivial, imgV_im hv]
    exact hA.2.2 _ _ (by unfold FYx; omega)
  refine ⟨?_, hi.dw (hA.tr hk.2.1 (fun a k q => Or.inr (Or.inl q)) (fun a k q => DM_W a k (Or.inr q))) ⟨?_, ?_, ?_⟩⟩
  · rw [im 125 0 (by unfold vp; omega), k1.1.1]
  · refine k1.cgv (fun a k hv => ?_) im
    have := px_26 hv
    exact hk.2.1.2.2 _ _ (by unfold vp; omega)
  · rw [hk.2.1.2.2 125 18 (by unfold vp; omega), hA.2.2 125 18 (by unfold FYx; omega)]
    exact j2.cgv im
  · rw [im 125 11 (by unfold vp; omega)]
    exact j3
end IMGOP
