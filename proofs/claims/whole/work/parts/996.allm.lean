/-! BORDER, 16: the reference reads all of a text -/
def CM (nb : Nat) (Bs : List mCl) (μ : mY) : Prop :=
  ∀ i, i < Bs.length → μ 137 (10 * nb + i) = (Bs.getD i cl0).1 ∧ μ 138 (10 * nb + i) = (Bs.getD i cl0).2.1 ∧ 0 ≤ μ 139 (10 * nb + i) ∧ μ 140 (10 * nb + i) = (Bs.getD i cl0).2.2.length ∧ μ 139 (10 * nb + i) + μ 140 (10 * nb + i) ≤ μ 125 26 ∧ ∀ j : Nat, j < (Bs.getD i cl0).2.2.length → μ 141 ((μ 139 (10 * nb + i)).toNat + j) = (Bs.getD i cl0).2.2.getD j 0
def DLm (nb c00 : Nat) : Nat → Nat → Prop := fun a k => (a = 125 ∧ ((14 ≤ k ∧ k ≤ 17) ∨ k = 26)) ∨ (a = 141 ∧ c00 ≤ k) ∨ (137 ≤ a ∧ a ≤ 140 ∧ 10 * nb ≤ k)
section ALLM
variable {X : mX} {d : Nat} {σ : mS} {Q : Option mV → mS → Prop} {T : Nat → Int} {n nb c00 : Nat}
theorem CM.more {Bs : List mCl} {c : mCl} {σ σ' : mS} {c0 e' : Nat} (h : CM nb Bs σ.2.1) (h26 : σ.2.1 125 26 = c0) (hP : PM T n c0 0 e' c.2.2 σ') (e0 : σ'.2.1 137 (10 * nb + Bs.length) = c.1) (e1 : σ'.2.1 138 (10 * nb + Bs.length) = c.2.1) (e2 : σ'.2.1 139 (10 * nb + Bs.length) = c0) (e3 : σ'.2.1 140 (10 * nb + Bs.length) = c.2.2.length) (hA : Agk (DCm c0 (10 * nb + Bs.length)) σ σ') : CM nb (Bs ++ [c]) σ'.2.1 := by
  have p8 := hP.2.2.2.2.2.2.2.2.1
  have p10 := hP.2.2.2.2.2.2.2.2.2.2
  intro i hi
  rw [List.length_append] at hi
  simp only [List.length_cons, List.length_nil] at hi
  by_cases hil : i < Bs.length
  · obtain ⟨b0, b1, b2, b3, b4, b5⟩ := h i hil
    rw [gDl_b hil, hA.2.2 137 (10 * nb + i) (by unfold DCm; omega), hA.2.2 138 (10 * nb + i) (by unfold DCm; omega), hA.2.2 139 (10 * nb + i) (by unfold DCm; omega), hA.2.2 140 (10 * nb + i) (by unfold DCm; omega)]
    refine ⟨b0, b1, b2, b3, by omega, fun j hj => ?_⟩
    rw [hA.2.2 141 _ (by unfold DCm; omega)]
    exact b5 j hj
  · rw [gDr_b (by omega), show i - Bs.length = 0 by omega, show 10 * nb + i = 10 * nb + Bs.length by omega]
    refine ⟨e0, e1, by omega, e3, by rw [e2, e3, p8]; omega, fun j hj => ?_⟩
    rw [e2, Int.toNat_natCast]
    exact p10 j hj
theorem DLm_tr {a b c : mS} (h : Agk (DLm nb c00) a b) (g : Agk (DLm nb c00) b c) : Agk (DLm nb c00) a c := h.tr g (fun _ _ h => h) (fun _ _ h => h)
theorem DCm_DLm {c0 i : Nat} (h : c00 ≤ c0) : ∀ a k, DCm c0 (10 * nb + i) a k → DLm nb c00 a k := by
  intro a k g
  unfold DCm at g
  unfold DLm
  omega
theorem DFnn_DLm : ∀ a k, DFnn a k → DLm nb c00 a k := by
  intro a k g
  unfold DFnn at g
  unfold DLm
  omega
/-- the loop's end, with or without success -/
theorem m_shutNo {x1 x2 : Int} (hr : -2147483648 ≤ x2 ∧ x2 ≤ 2147483647) (hs : Sh σ) (h : WP X (d + 1) (0, 0) MX11_border 123 [(0, vP (some 125)), (1, vI x1), (2, vI x2), (4, vI 0)] [] σ Q) : WP X (d + 1) (0, 0) MX11_border 29 [(0, vP (some 125)), (1, vI x1), (2, vI x2), (3, vI 0), (4, vI 0)] [] σ Q :=
  C_X11_border_29 hs ⟨by decide, fun _ => h, fun q => absurd rfl q⟩
theorem m_texts (hnb : nb ≤ 5) {x1 : Int} : ∀ (m a c0 : Nat) (Bs : List mCl) (σ : mS), PN T n a σ → σ.2.1 125 18 = nb → σ.2.1 125 26 = c0 → c0 ≤ c00 + a → c00 ≤ c0 → c00 ≤ 500 → CM nb Bs σ.2.1 → Bs.length + m = 10 →
    ((pCs T n m a).1 = true → ∀ (σ' : mS) (c1 : Nat), σ'.2.1 125 26 = (c1 : Int) → c1 ≤ c00 + 100 → c00 ≤ c1 → CM nb (Bs ++ (pCs T n m a).2.2) σ'.2.1 → Agk (DLm nb c00) σ σ' → WP X (d + 23) (0, 0) MX11_border 123 [(0, vP (some 125)), (1, vI x1), (2, vI ((Bs ++ (pCs T n m a).2.2).length : Int)), (4, vI 1)] [] σ' Q) →
    ((pCs T n m a).1 = false → ∀ (σ' : mS) (x2 : Int), σ'.2.1 125 14 = ((pCs T n m a).2.1 : Int) → Agk (DLm nb c00) σ σ' → WP X (d + 23) (0, 0) MX11_border 123 [(0, vP (some 125)), (1, vI x1), (2, vI x2), (4, vI 0)] [] σ' Q) →
    WP X (d + 23) (0, 0) MX11_border 29 [(0, vP (some 125)), (1, vI x1), (2, vI (Bs.length : Int)), (3, vI 1), (4, vI 0)] [] σ Q
  | 0, a, c0, Bs, σ, h, h18, h26, hc, hc1, hc2, hC, hm, hy, hn => by
    refine C_X11_border_29 (d := d + 22) h.1 ⟨by decide, fun q => absurd q (by decide), fun _ => ⟨by decide, fun q => absurd rfl q, fun _ => ⟨by omega, fun _ => ?_, fun q => absurd (show (10 : Int) ≤ (Bs.length : Int) by omega) q⟩⟩⟩
    exact C_X11_border_64 (d := d + 22) h.1 (C_X11_border_65 (d := d + 22) h.1 ⟨by decide, fun q => absurd rfl q, fun _ => m_shutNo (d := d + 22) (by omega) h.1 (hn rfl σ _ h.2.2.2.2.1 (Agk.rf h.1))⟩)
  | m + 1, a, c0, Bs, σ, h, h18, h26, hc, hc1, hc2, hC, hm, hy, hn => by
    have hn100 := h.2.1
    have han := h.2.2.1
    rw [pCs_s] at hy hn
    refine C_X11_border_29 (d := d + 22) h.1 ⟨by decide, fun q => absurd q (by decide), fun _ => ⟨by decide, fun q => absurd rfl q, fun _ => ⟨by omega, fun q => absurd (show (10 : Int) ≤ (Bs.length : Int) from q) (by omega), fun _ => ?_⟩⟩⟩
    rw [h18, show 10 * (nb : Int) + (Bs.length : Int) = ((10 * nb + Bs.length : Nat) : Int) by omega]
    refine m_cl (d := d) (x := 10 * nb + Bs.length) (c0 := c0) (by omega) (by omega) h h26 ⟨fun u σ1 g1 e0 e1 e2 e3 g2 => ⟨true, rfl, g1.1, (fun q => nomatch q), fun _ => ?_⟩, fun u σ1 g1 g2 => ⟨false, rfl, g2.1, fun _ => ?_, (fun q => nomatch q)⟩⟩
    · obtain ⟨w1, w2, w3, w4⟩ := pCl_ok (T := T) (n := n) (a := a) hn100 u
      rw [if_pos u] at hy hn
      have A : Agk (DLm nb c00) σ σ1 := g2.mono (DCm_DLm hc1)
      have hC1 : CM nb (Bs ++ [(pCl T n a).2.2]) σ1.2.1 := hC.more h26 g1 e0 e1 e2 e3 g2
      have q12 := g1.2.2.2.1
      have q14 := g1.2.2.2.2.1
      have q26 := g1.2.2.2.2.2.2.2.2.1
      have q18 : σ1.2.1 125 18 = nb := by rw [A.2.2 125 18 (by unfold DLm; omega)]; exact h18
      have hN : PN T n (pCl T n a).2.1 σ1 := ⟨g1.1, hn100, w2, q12, q14, g1.2.2.2.2.2.2.1, g1.2.2.2.2.2.2.2.1⟩
      have el : (Bs.length : Int) + 1 = ((Bs ++ [(pCl T n a).2.2]).length : Int) := by rw [List.length_append]; simp only [List.length_cons, List.length_nil]; omega
      refine C_X11_border_65 (d := d + 22) g1.1 ⟨by decide, fun _ => ⟨fun q => ?_, fun q => ?_⟩, fun q => absurd q (by decide)⟩
      · have qn : (pCl T n a).2.1 ≠ n := by omega
        rw [if_neg qn] at hy hn
        have stop : (WP X (d + 23) (0, 0) MX11_border 123 [(0, vP (some 125)), (1, vI x1), (2, vI ((Bs.length : Int) + 1)), (4, vI 0)] [] σ1 Q) → WP X (d + 23) (0, 0) MX11_border 118 [(0, vP (some 125)), (1, vI x1), (2, vI ((Bs.length : Int) + 1)), (4, vI 0)] [] σ1 Q := fun hw =>
          C_X11_border_118 (d := d + 22) g1.1 (C_X11_border_119 (d := d + 22) g1.1 (m_shutNo (d := d + 22) (by omega) g1.1 hw))
        refine C_X11_border_92 (d := d + 22) g1.1 ⟨by decide, fun q => absurd rfl q, fun _ => ⟨by omega, fun q => ?_, fun q => ?_⟩⟩
        · rw [if_pos (show m = 0 by omega)] at hn
          exact stop (hn rfl σ1 _ q14 A)
        · rw [if_neg (show ¬ m = 0 by omega)] at hy hn
          refine n_is (d := d + 22) hN (by decide) (fun r σ2 f1 f2 => ⟨true, rfl, f1.1, (fun q => nomatch q), fun _ => ?_⟩) (fun r => ⟨false, rfl, g1.1, fun _ => ?_, (fun q => nomatch q)⟩)
          · rw [if_pos r] at hy hn
            have B : Agk (DLm nb c00) σ σ2 := DLm_tr A (f2.mono DFnn_DLm)
            have n2 : ∀ b k, ¬ DFnn b k → σ2.2.1 b k = σ1.2.1 b k := fun b k h => f2.2.2 b k h
            have hC2 : CM nb (Bs ++ [(pCl T n a).2.2]) σ2.2.1 := by
              intro i hi
              rw [n2 137 _ (by unfold DFnn; omega), n2 138 _ (by unfold DFnn; omega), n2 139 _ (by unfold DFnn; omega), n2 140 _ (by unfold DFnn; omega), n2 125 26 (by unfold DFnn; omega)]
              obtain ⟨b0, b1, b2, b3, b4, b5⟩ := hC1 i hi
              exact ⟨b0, b1, b2, b3, b4, fun j hj => by rw [n2 141 _ (by unfold DFnn; omega)]; exact b5 j hj⟩
            rw [el]
            refine C_X11_border_114 (d := d + 22) f1.1 (C_X11_border_119 (d := d + 22) f1.1 ?_)
            refine m_texts hnb m _ (c0 + (pCl T n a).2.2.2.2.length) (Bs ++ [(pCl T n a).2.2]) σ2 f1 (by rw [n2 125 18 (by unfold DFnn; omega)]; exact q18) (by rw [n2 125 26 (by unfold DFnn; omega)]; exact q26) (by omega) (by omega) hc2 hC2 (by rw [List.length_append]; simp only [List.length_cons, List.length_nil]; omega) (fun v σ3 c1 r1 r2 r3 r4 r5 => ?_) (fun v σ3 x2 r1 r2 => hn v σ3 x2 r1 (DLm_tr B r2))
            have es : (Bs ++ [(pCl T n a).2.2]) ++ (pCs T n m ((pCl T n a).2.1 + 1)).2.2 = Bs ++ (pCl T n a).2.2 :: (pCs T n m ((pCl T n a).2.1 + 1)).2.2 := by rw [List.append_assoc]; rfl
            rw [es] at r4 ⊢
            exact hy v σ3 c1 r1 r2 r3 r4 (DLm_tr B r5)
          · rw [if_neg r] at hn
            exact stop (hn rfl σ1 _ q14 A)
      · have qn : (pCl T n a).2.1 = n := by omega
        rw [if_pos qn] at hy
        refine C_X11_border_92 (d := d + 22) g1.1 ⟨by decide, fun _ => ?_, fun q => absurd q (by decide)⟩
        refine C_X11_border_114 (d := d + 22) g1.1 (C_X11_border_119 (d := d + 22) g1.1 (C_X11_border_29 (d := d + 22) g1.1 ⟨by decide, fun q => absurd q (by decide), fun _ => ⟨by decide, fun _ => ?_, fun q => absurd q (by decide)⟩⟩))
        rw [el]
        exact hy rfl σ1 (c0 + (pCl T n a).2.2.2.2.length) q26 (by omega) (by omega) hC1 A
    · rw [if_neg (by rw [u]; decide)] at hn
      exact C_X11_border_64 (d := d + 22) g2.1 (C_X11_border_65 (d := d + 22) g2.1 ⟨by decide, fun q => absurd rfl q, fun _ => m_shutNo (d := d + 22) (by omega) g2.1 (hn rfl σ1 _ g1 (g2.mono (DCm_DLm hc1)))⟩)
end ALLM
