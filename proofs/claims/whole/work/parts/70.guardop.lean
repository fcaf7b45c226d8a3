/-! guard, question -/
section GUARDOP
variable {X : mX} {d : Nat} {σ : mS} {Q : Option mV → mS → Prop} {y : Nat} {Y Z : mY} {B : List mCl}
theorem c_fillIL (hs0 : Sh σ) {x n : Nat} {v : Int} (hv : -2147483648 ≤ v ∧ v ≤ 2147483647) (hk : ∀ σ' : mS, Sh σ' → σ'.1[x]? = some (50, n)) (hn : n ≤ 1000) (hQ : ∀ σ', Agk (fun a k => a = x ∧ k < n) σ σ' → (∀ j, j < n → σ'.2.1 x j = v) → Q none σ') : ∀ (m i : Nat) (σ1 : mS), i + m = n → Agk (fun a k => a = x ∧ k < n) σ σ1 → (∀ j, j < i → σ1.2.1 x j = v) → WP X d (0, 0) MJ7_fill_53178 5 [(0, vP (some x)), (1, vI v), (2, vI (i : Int)), (3, vI (n : Int))] [] σ1 Q := by
  intro m
  induction m with
  | zero =>
    intro i σ1 hi hA hj
    exact B_J7_fill_53178_5 ⟨by omega, by omega, fun _ => hQ σ1 hA (fun j h => hj j (by omega)), fun hz => absurd hz (by omega)⟩
  | succ m ih =>
    intro i σ1 hi hA hj
    refine B_J7_fill_53178_5 ⟨by omega, by omega, fun hz => absurd hz (by omega), fun _ => ⟨⟨n, hk σ1 hA.1, by omega, by omega, by omega⟩, ?_⟩⟩
    rw [show ((i : Int)).toNat = i by omega, show (i : Int) + 1 = ((i + 1 : Nat) : Int) by omega]
    have hs1 : Sh (sI σ1 x i v) := sh_I hA.1 hv (hk σ1 hA.1) (Or.inl (show (50 : Nat) ≠ 6 by decide))
    refine ih (i + 1) _ (by omega) (hA.sI hs1 ⟨rfl, by omega⟩) (fun j h => ?_)
    rw [sI_at]
    by_cases hz : j = i
    · rw [if_pos ⟨rfl, hz⟩]
    · rw [if_neg (by omega)]
      exact hj j (by omega)
theorem c_fillI (hs : Sh σ) {x n : Nat} {v : Int} (hv : -2147483648 ≤ v ∧ v ≤ 2147483647) (hk : SHL[x]? = some (50, n)) (hn : n ≤ 1000) (hQ : ∀ σ', Agk (fun a k => a = x ∧ k < n) σ σ' → (∀ j, j < n → σ'.2.1 x j = v) → Q none σ') : CALL X d (0, 0) MJ7_fill_53178 [vP (some x), vI v] σ Q :=
  B_J7_fill_53178 ⟨n, hs.k hk, c_fillIL hs hv (fun σ' h => h.k hk) hn hQ n 0 σ (Nat.zero_add _) (Agk.rf hs) (fun j h => absurd h (by omega))⟩
def DPx (S : Nat → Nat → Prop) : Nat → Nat → Prop := fun a k => ∃ b j, vp b j ∧ S b j ∧ a = 1 + (px b j).1 ∧ k = (px b j).2
def DPm (S : Nat → Nat → Prop) : Nat → Nat → Prop := fun a k => vp a k ∧ S a k
theorem DPx_27 {S : Nat → Nat → Prop} {a k : Nat} (h : DPx S a k) : a ≤ 27 := by
  obtain ⟨b, j, hv, -, h1, -⟩ := h
  have := px_26 hv
  omega
/-- the places of S are set on both sides -/
theorem Inv.set {σ1 σ2 : mS} (hi : Inv σ) (S : Nat → Nat → Prop) (h1 : Agk (DPx S) σ σ1) (h2 : Agk (DPm S) σ1 σ2) (h160 : ∀ k, S 159 k → S 160 k) (heq : ∀ a k, vp a k → S a k → σ1.2.1 (1 + (px a k).1) (px a k).2 = σ2.2.1 a k) (hW : WFY (σ.2.1 138 18) σ2.2.1) (h11 : σ2.2.1 138 11 ≤ 9999) : Inv σ2 := by
  have e18 : σ2.2.1 138 18 = σ.2.1 138 18 := by
    rw [h2.2.2 138 18 (fun q => by have := q.1; unfold vp at this; omega), h1.2.2 138 18 (fun q => by have := DPx_27 q; omega)]
  refine hi.dw (h1.tr h2 (fun a k q => ?_) (fun a k q => DM_W a k (Or.inr q.1))) ⟨?_, ?_, h11⟩
  · obtain ⟨b, j, hv, -, rfl, rfl⟩ := q
    exact Or.inr (Or.inl (px_F hv 1))
  · refine hi.2.1.1.sets2 S h160 (fun a k hp hq _ => ?_) (fun a k hp hns => ?_) (fun a k hp hns => ?_)
    · have := px_26 hp
      rw [h2.2.2 _ _ (fun q => by have := q.1; unfold vp at this; omega)]
      exact heq a k hp hq
    · have := px_26 hp
      rw [h2.2.2 _ _ (fun q => by have := q.1; unfold vp at this; omega)]
      refine h1.2.2 _ _ (fun q => ?_)
      obtain ⟨b, j, hv, hS, e1, e2⟩ := q
      obtain ⟨rfl, rfl⟩ := px_inj hp hv (Prod.ext (by omega) e2)
      exact hns hS
    · rw [h2.2.2 a k (fun q => hns q.2)]
      exact h1.2.2 a k (fun q => by have := DPx_27 q; unfold vp at hp; omega)
  · rw [e18]
    exact hW
def SG (G : Nat) : Nat → Nat → Prop := fun a k => (a = 138 ∧ k = 0) ∨ (139 ≤ a ∧ a ≤ 142 ∧ k = G) ∨ (a = 143 ∧ 4 * G ≤ k ∧ k < 4 * G + 4)
def nvG (G : Nat) (x1 x2 x3 : Int) (a : Nat) : Int := if a = 138 then (G : Int) + 1 else if a = 139 then x1 else if a = 140 then x2 else if a = 141 then x3 else 0
theorem c_addGuard (hs : Sh σ) {G : Nat} (hG : σ.2.1 1 5 = (G : Int)) (hG6 : G ≤ 6) {x1 x2 x3 : Int} (h1 : -2147483648 ≤ x1 ∧ x1 ≤ 2147483647) (h2 : -2147483648 ≤ x2 ∧ x2 ≤ 2147483647) (h3 : -2147483648 ≤ x3 ∧ x3 ≤ 2147483647) (q0 : G = 6 → Q (some (vI (-4))) σ)
    (q1 : G < 6 → ∀ σ', Agk (DPx (SG G)) σ σ' → (∀ a k, vp a k → SG G a k → σ'.2.1 (1 + (px a k).1) (px a k).2 = nvG G x1 x2 x3 a) → Q (some (vI (G : Int))) σ') : CALL X (d + 2) (0, 0) MX9_addGuard [vP (some 1), vI x1, vI x2, vI x3] σ Q := by
  refine C_X9_addGuard hs (Or.inl rfl) ⟨fun h => ⟨by omega, ?_⟩, fun h => q0 (by omega)⟩
  have hG5 : G < 6 := by omega
  rw [hG, show ((G : Int)).toNat = G by omega]
  have hg : isG (1 + 9 + 3 * G) := ⟨1, G, Or.inl rfl, hG5, rfl⟩
  have t := tG 1 (by decide) G hG5
  have v0 : vp 139 G ∧ vp 140 G ∧ vp 141 G ∧ vp 142 G := by unfold vp; omega
  have d0 : DPx (SG G) (1 + 9 + 3 * G) 0 := ⟨139, G, v0.1, by unfold SG; omega, Nat.add_assoc 1 9 _, rfl⟩
  have d1 : DPx (SG G) (1 + 9 + 3 * G) 1 := ⟨140, G, v0.2.1, by unfold SG; omega, Nat.add_assoc 1 9 _, rfl⟩
  have d2 : DPx (SG G) (1 + 9 + 3 * G) 2 := ⟨141, G, v0.2.2.1, by unfold SG; omega, Nat.add_assoc 1 9 _, rfl⟩
  have d3 : DPx (SG G) (1 + 9 + 3 * G) 3 := ⟨142, G, v0.2.2.2, by unfold SG; omega, Nat.add_assoc 1 9 _, rfl⟩
  have d5 : DPx (SG G) 1 5 := ⟨138, 0, by unfold vp; omega, by unfold SG; omega, rfl, rfl⟩
  have dr : ∀ j, j < 4 → DPx (SG G) (1 + 9 + 3 * G + 1) j := fun j hj => by
    refine ⟨143, 4 * G + j, by unfold vp; omega, by unfold SG; omega, ?_, ?_⟩
    · show 1 + 9 + 3 * G + 1 = 1 + (10 + 3 * ((4 * G + j) / 4))
      omega
    · show j = (4 * G + j) % 4
      omega
  have hs1 : Sh (sI σ (1 + 9 + 3 * G) 0 x1) := sh_I hs h1 (kG hs hg) (Or.inl (by decide))
  have hs2 : Sh (sI (sI σ (1 + 9 + 3 * G) 0 x1) (1 + 9 + 3 * G) 1 x2) := sh_I hs1 h2 (kG hs1 hg) (Or.inl (by decide))
  have hs3 : Sh (sI (sI (sI σ (1 + 9 + 3 * G) 0 x1) (1 + 9 + 3 * G) 1 x2) (1 + 9 + 3 * G) 2 x3) := sh_I hs2 h3 (kG hs2 hg) (Or.inl (by decide))
  have hs4 : Sh (sI (sI (sI (sI σ (1 + 9 + 3 * G) 0 x1) (1 + 9 + 3 * G) 1 x2) (1 + 9 + 3 * G) 2 x3) (1 + 9 + 3 * G) 3 0) := sh_I hs3 (by decide) (kG hs3 hg) (Or.inl (by decide))
  have hA4 : Agk (DPx (SG G)) σ (sI (sI (sI (sI σ (1 + 9 + 3 * G) 0 x1) (1 + 9 + 3 * G) 1 x2) (1 + 9 + 3 * G) 2 x3) (1 + 9 + 3 * G) 3 0) := ((((Agk.rf hs).sI hs1 d0).sI hs2 d1).sI hs3 d2).sI hs4 d3
  have f0 : (sI (sI (sI (sI σ (1 + 9 + 3 * G) 0 x1) (1 + 9 + 3 * G) 1 x2) (1 + 9 + 3 * G) 2 x3) (1 + 9 + 3 * G) 3 0).2.1 (1 + 9 + 3 * G) 0 = x1 := by rw [sI_at, if_neg (by omega), sI_at, if_neg (by omega), sI_at, if_neg (by omega), sI_at, if_pos ⟨rfl, rfl⟩]
  have f1 : (sI (sI (sI (sI σ (1 + 9 + 3 * G) 0 x1) (1 + 9 + 3 * G) 1 x2) (1 + 9 + 3 * G) 2 x3) (1 + 9 + 3 * G) 3 0).2.1 (1 + 9 + 3 * G) 1 = x2 := by rw [sI_at, if_neg (by omega), sI_at, if_neg (by omega), sI_at, if_pos ⟨rfl, rfl⟩]
  have f2 : (sI (sI (sI (sI σ (1 + 9 + 3 * G) 0 x1) (1 + 9 + 3 * G) 1 x2) (1 + 9 + 3 * G) 2 x3) (1 + 9 + 3 * G) 3 0).2.1 (1 + 9 + 3 * G) 2 = x3 := by rw [sI_at, if_neg (by omega), sI_at, if_pos ⟨rfl, rfl⟩]
  have f3 : (sI (sI (sI (sI σ (1 + 9 + 3 * G) 0 x1) (1 + 9 + 3 * G) 1 x2) (1 + 9 + 3 * G) 2 x3) (1 + 9 + 3 * G) 3 0).2.1 (1 + 9 + 3 * G) 3 = 0 := by rw [sI_at, if_pos ⟨rfl, rfl⟩]
  have f5 : (sI (sI (sI (sI σ (1 + 9 + 3 * G) 0 x1) (1 + 9 + 3 * G) 1 x2) (1 + 9 + 3 * G) 2 x3) (1 + 9 + 3 * G) 3 0).2.1 1 5 = (G : Int) := by rw [sI_at, if_neg (by omega), sI_at, if_neg (by omega), sI_at, if_neg (by omega), sI_at, if_neg (by omega), hG]
  refine C_X3_become hs hg ⟨h1, h2, h3, ?_⟩
  revert hA4 f0 f1 f2 f3 f5 hs4
  generalize sI (sI (sI (sI σ (1 + 9 + 3 * G) 0 x1) (1 + 9 + 3 * G) 1 x2) (1 + 9 + 3 * G) 2 x3) (1 + 9 + 3 * G) 3 0 = σ4
  intro hs4 hA4 f0 f1 f2 f3 f5
  refine c_fillI hs4 (by decide) (n := 4) t.2.1 (by decide) (fun σ5 hB hj => ⟨rfl, hB.1, rfl, hB.1, ?_⟩)
  have e5 : σ5.2.1 1 5 = (G : Int) := by rw [hB.2.2 1 5 (by omega), f5]
  rw [e5]
  have hs6 : Sh (sI σ5 1 5 ((G : Int) + 1)) := sh_I hB.1 (by omega) (hB.1.k (a := 1) rfl) (Or.inl (by decide))
  rw [sI_at, if_pos ⟨rfl, rfl⟩, show (G : Int) + 1 - 1 = (G : Int) by omega]
  have hA5 : Agk (DPx (SG G)) σ σ5 := hA4.tr hB (fun _ _ q => q) (fun a k q => by rw [q.1]; exact dr k q.2)
  refine ⟨by omega, q1 hG5 _ (hA5.sI hs6 d5) (fun a k hp hq => ?_)⟩
  have g0 : ∀ k, σ5.2.1 (1 + 9 + 3 * G) k = σ4.2.1 (1 + 9 + 3 * G) k := fun k => hB.2.2 _ _ (by omega)
  unfold SG at hq
  have hq2 : (a = 138 ∧ k = 0) ∨ (a = 139 ∧ k = G) ∨ (a = 140 ∧ k = G) ∨ (a = 141 ∧ k = G) ∨ (a = 142 ∧ k = G) ∨ (a = 143 ∧ ∃ j, j < 4 ∧ k = 4 * G + j) := by
    rcases hq with hq | hq | hq
    · exact Or.inl hq
    · omega
    · exact Or.inr (Or.inr (Or.inr (Or.inr (Or.inr ⟨hq.1, k - 4 * G, by omega, by omega⟩))))
  rcases hq2 with ⟨rfl, rfl⟩ | ⟨rfl, rfl⟩ | ⟨rfl, rfl⟩ | ⟨rfl, rfl⟩ | ⟨rfl, rfl⟩ | ⟨rfl, j, hj4, rfl⟩
  · show (sI σ5 1 5 ((G : Int) + 1)).2.1 1 5 = _
    rw [sI_at, if_pos ⟨rfl, rfl⟩]
    rfl
  · show (sI σ5 1 5 ((k : Int) + 1)).2.1 (1 + (9 + 3 * k)) 0 = x1
    rw [sI_at, if_neg (by omega), ← Nat.add_assoc, g0, f0]
  · show (sI σ5 1 5 ((k : Int) + 1)).2.1 (1 + (9 + 3 * k)) 1 = x2
    rw [sI_at, if_neg (by omega), ← Nat.add_assoc, g0, f1]
  · show (sI σ5 1 5 ((k : Int) + 1)).2.1 (1 + (9 + 3 * k)) 2 = x3
    rw [sI_at, if_neg (by omega), ← Nat.add_assoc, g0, f2]
  · show (sI σ5 1 5 ((k : Int) + 1)).2.1 (1 + (9 + 3 * k)) 3 = 0
    rw [sI_at, if_neg (by omega), ← Nat.add_assoc, g0, f3]
  · show (sI σ5 1 5 ((G : Int) + 1)).2.1 (1 + (10 + 3 * ((4 * G + j) / 4))) ((4 * G + j) % 4) = 0
    rw [show 1 + (10 + 3 * ((4 * G + j) / 4)) = 1 + 9 + 3 * G + 1 by omega, show (4 * G + j) % 4 = j by omega, sI_at, if_neg (by omega)]
    exact hj j hj4
theorem m_guardL {x1 x2 x3 : Int} {σ0 : mS} {G : Nat} (hG5 : G < 6) (h0 : ∀ σ1, Agk (DPm (SG G)) σ0 σ1 → σ1.2.1 138 0 = (G : Int) → (∀ a k, vp a k → SG G a k → a ≠ 138 → σ1.2.1 a k = nvG G x1 x2 x3 a) → Q (some (vI (G : Int))) (sI σ1 138 0 ((G : Int) + 1))) : ∀ (m i : Nat) (σ : mS), i + m = 4 → Agk (DPm (SG G)) σ0 σ → σ.2.1 138 0 = (G : Int) → (∀ a k, vp a k → SG G a k → a ≠ 138 → (a = 143 → k < 4 * G + i) → σ.2.1 a k = nvG G x1 x2 x3 a) → WP X (d + 1) (0, 0) MX11_guard 87 [(0, vP (some 138)), (4, vI (i : Int))] [] σ Q := by
  intro m
  induction m with
  | zero =>
    intro i σ hi hA hg hv
    refine C_X11_guard_87 hA.1 ⟨by omega, fun _ => ⟨by omega, ?_⟩, fun hz => absurd hz (by omega)⟩
    rw [hg]
    exact h0 σ hA hg (fun a k hp hq hn => hv a k hp hq hn (by unfold SG at hq; omega))
  | succ m ih =>
    intro i σ hi hA hg hv
    refine C_X11_guard_87 hA.1 ⟨by omega, fun hz => absurd hz (by omega), fun _ => ⟨by omega, by omega, ?_⟩⟩
    rw [hg, show (4 * (G : Int) + (i : Int)).toNat = 4 * G + i by omega, show (i : Int) + 1 = ((i + 1 : Nat) : Int) by omega]
    have hs1 : Sh (sI σ 143 (4 * G + i) 0) := sh_I hA.1 (by decide) (hA.1.k (a := 143) rfl) (Or.inl (by decide))
    refine ih (i + 1) _ (by omega) (hA.sI hs1 ⟨by unfold vp; omega, by unfold SG; omega⟩) (by rw [sI_at, if_neg (by omega), hg]) (fun a k hp hq hn hk => ?_)
    rw [sI_at]
    by_cases hz : a = 143 ∧ k = 4 * G + i
    · rw [if_pos hz, hz.1]
      rfl
    · rw [if_neg hz]
      exact hv a k hp hq hn (by omega)
end GUARDOP
