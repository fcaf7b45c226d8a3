/-! guard, question -/
section GUARDOP
variable {X : mX} {d : Nat} {σ : mS} {Q : Option mV → mS → Prop} {y : Nat} {Y Z : mY} {B : List mCl}
theorem c_fillIL (hs0 : Sh σ) {x n : Nat} {v : Int} (hv : -2147483648 ≤ v ∧ v ≤ 2147483647) (hk : ∀ σ' : mS, Sh σ' → σ'.1[x]? = some (50, n)) (hn : n ≤ 1000) (hQ : ∀ σ', Agk (fun a k => a = x ∧ k < n) σ σ' → (∀ j, j < n → σ'.2.1 x j = v) → Q none σ') : ∀ (m i : Nat) (σ1 : mS), i + m = n → Agk (fun a k => a = x ∧ k < n) σ σ1 → (∀ j, j < i → σ1.2.1 x j = v) → WP X d (0, 0) MJ7_fill_53178 5 [(0, vP (some x)), (1, vI v), (2, vI (i : Int)), (3, vI (n : Int))] [] σ1 Q := by
  intro m
  induction m with
  | zero =>
    intro i σ1 hi hA hj
    exact B_J7_fill_53178_5 ⟨by omega, by omega, fun _ => hQ σ1 hA (fun j h => hj j (by omega)), fun hz => absurd hz (by omega)⟩
  | succ m ih =>
    intro i σ1 hi hA hj
    refine B_J7_fill_53178_5 ⟨by omega, by omega, fun hz => absurd hz (by omega), fun _ => ⟨⟨n, hk σ1 hA.1, by omega, by omega, by omega⟩, ?_⟩⟩
    rw [show ((i : Int)).toNat = i by omega, show (i : Int) + 1 = ((i + 1 : Nat) : Int) by omega]
    have hs1 : Sh (sI σ1 x i v) := sh_I hA.1 hv (hk σ1 hA.1) (Or.inl (show (50 : Nat) ≠ 6 by decide))
    refine ih (i + 1) _ (by omega) (hA.sI hs1 ⟨rfl, by omega⟩) (fun j h => ?_)
    rw [sI_at]
    by_cases hz : j = i
    · rw [if_pos ⟨rfl, hz⟩]
    · rw [if_neg (by omega)]
      exact hj j (by omega)
theorem c_fillI (hs : Sh σ) {x n : Nat} {v : Int} (hv : -2147483648 ≤ v ∧ v ≤ 2147483647) (hk : SHL[x]? = some (50, n)) (hn : n ≤ 1000) (hQ : ∀ σ', Agk (fun a k => a = x ∧ k < n) σ σ' → (∀ j, j < n → σ'.2.1 x j = v) → Q none σ') : CALL X d (0, 0) MJ7_fill_53178 [vP (some x), vI v] σ Q :=
  B_J7_fill_53178 ⟨n, hs.k hk, c_fillIL hs hv (fun σ' h => h.k hk) hn hQ n 0 σ (Nat.zero_add _) (Agk.rf hs) (fun j h => absurd h (by omega))⟩
def DPx (S : Nat → Nat → Prop) : Nat → Nat → Prop := fun a k => ∃ b j, vp b j ∧ S b j ∧ a = 1 + (px b j).1 ∧ k = (px b j).2
def DPm (S : Nat → Nat → Prop) : Nat → Nat → Prop := fun a k => vp a k ∧ S a k
theorem DPx_27 {S : Nat → Nat → Prop} {a k : Nat} (h : DPx S a k) : a ≤ 27 := by
  obtain ⟨b, j, hv, -, h1, -⟩ := h
  have := px_26 hv
  omega
/-- the places of S are set on both sides -/
theorem Inv.setPl {σ1 σ2 : mS} (hi : Inv σ) (S : Nat → Nat → Prop) (h1 : Agk (DPx S) σ σ1) (h2 : Agk (DPm S) σ1 σ2) (h160 : ∀ k, S 146 k → S 147 k) (heq : ∀ a k, vp a k → S a k → σ1.2.1 (1 + (px a k).1) (px a k).2 = σ2.2.1 a k) (hW : WFY (σ.2.1 125 18) σ2.2.1) (h11 : σ2.2.1 125 11 ≤ 9999) : Inv σ2 := by
  have e18 : σ2.2.1 125 18 = σ.2.1 125 18 := by
    rw [h2.2.2 125 18 (fun q => by have := q.1; unfold vp at this; omega), h1.2.2 125 18 (fun q => by have := DPx_27 q; omega)]
  refine hi.dw (h1.tr h2 (fun a k q => ?_) (fun a k q => DM_W a k (Or.inr q.1))) ⟨?_, ?_, h11⟩
  · obtain ⟨b, j, hv, -, rfl, rfl⟩ := q
    exact Or.inr (Or.inl (px_F hv 1))
  · refine hi.2.1.1.sets2 S h160 (fun a k hp hq _ => ?_) (fun a k hp hns => ?_) (fun a k hp hns => ?_)
    · have := px_26 hp
      rw [h2.2.2 _ _ (fun q => by have := q.1; unfold vp at this; omega)]
      exact heq a k hp hq
    · have := px_26 hp
      rw [h2.2.2 _ _ (fun q => by have := q.1; unfold vp at this; omega)]
      refine h1.2.2 _ _ (fun q => ?_)
      obtain ⟨b, j, hv, hS, e1, e2⟩ := q
      obtain ⟨rfl, rfl⟩ := px_inj hp hv (Prod.ext (by omega) e2)
      exact hns hS
    · rw [h2.2.2 a k (fun q => hns q.2)]
      exact h1.2.2 a k (fun q => by have := DPx_27 q; unfold vp at hp; omega)
  · rw [e18]
    exact hW
def SGd (G : Nat) : Nat → Nat → Prop := fun a k => (a = 125 ∧ k = 0) ∨ (126 ≤ a ∧ a ≤ 129 ∧ k = G) ∨ (a = 130 ∧ 4 * G ≤ k ∧ k < 4 * G + 4)
def nvG (G : Nat) (x1 x2 x3 : Int) (a : Nat) : Int := if a = 125 then (G : Int) + 1 else if a = 126 then x1 else if a = 127 then x2 else if a = 128 then x3 else 0
theorem c_addGuard (hs : Sh σ) {G : Nat} (hG : σ.2.1 1 5 = (G : Int)) (hG6 : G ≤ 6) {x1 x2 x3 : Int} (h1 : -2147483648 ≤ x1 ∧ x1 ≤ 2147483647) (h2 : -2147483648 ≤ x2 ∧ x2 ≤ 2147483647) (h3 : -2147483648 ≤ x3 ∧ x3 ≤ 2147483647) (q0 : G = 6 → Q (some (vI (-4))) σ)
    (q1 : G < 6 → ∀ σ', Agk (DPx (SGd G)) σ σ' → (∀ a k, vp a k → SGd G a k → σ'.2.1 (1 + (px a k).1) (px a k).2 = nvG G x1 x2 x3 a) → Q (some (vI (G : Int))) σ') : CALL X (d + 2) (0, 0) MX9_addGuard [vP (some 1), vI x1, vI x2, vI x3] σ Q := by
  refine C_X9_addGuard hs (Or.inl rfl) ⟨fun h => ⟨by omega, ?_⟩, fun h => q0 (by omega)⟩
  have hG5 : G < 6 := by omega
  rw [hG, show ((G : Int)).toNat = G by omega]
  have hg : isG (1 + 9 + 3 * G) := ⟨1, G, Or.inl rfl, hG5, rfl⟩
  have t := tG 1 (by decide) G hG5
  have v0 : vp 126 G ∧ vp 127 G ∧ vp 128 G ∧ vp 129 G := by unfold vp; omega
  have d0 : DPx (SGd G) (1 + 9 + 3 * G) 0 := ⟨126, G, v0.1, by unfold SGd; omega, Nat.add_assoc 1 9 _, rfl⟩
  have d1 : DPx (SGd G) (1 + 9 + 3 * G) 1 := ⟨127, G, v0.2.1, by unfold SGd; omega, Nat.add_assoc 1 9 _, rfl⟩
  have d2 : DPx (SGd G) (1 + 9 + 3 * G) 2 := ⟨128, G, v0.2.2.1, by unfold SGd; omega, Nat.add_assoc 1 9 _, rfl⟩
  have d3 : DPx (SGd G) (1 + 9 + 3 * G) 3 := ⟨129, G, v0.2.2.2, by unfold SGd; omega, Nat.add_assoc 1 9 _, rfl⟩
  have d5 : DPx (SGd G) 1 5 := ⟨125, 0, by unfold vp; omega, by unfold SGd; omega, rfl, rfl⟩
  have dr : ∀ j, j < 4 → DPx (SGd G) (1 + 9 + 3 * G + 1) j := fun j hj => by
    refine ⟨130, 4 * G + j, by unfold vp; omega, by unfold SGd; omega, ?_, ?_⟩
    · show 1 + 9 + 3 * G + 1 = 1 + (10 + 3 * ((4 * G + j) / 4))
      omega
    · show j = (4 * G + j) % 4
      omega
  have hs1 : Sh (sI σ (1 + 9 + 3 * G) 0 x1) := sh_I hs h1 (kG hs hg) (Or.inl (by decide))
  have hs2 : Sh (sI (sI σ (1 + 9 + 3 * G) 0 x1) (1 + 9 + 3 * G) 1 x2) := sh_I hs1 h2 (kG hs1 hg) (Or.inl (by decide))
  have hs3 : Sh (sI (sI (sI σ (1 + 9 + 3 * G) 0 x1) (1 + 9 + 3 * G) 1 x2) (1 + 9 + 3 * G) 2 x3) := sh_I hs2 h3 (kG hs2 hg) (Or.inl (by decide))
  have hs4 : Sh (sI (sI (sI (sI σ (1 + 9 + 3 * G) 0 x1) (1 + 9 + 3 * G) 1 x2) (1 + 9 + 3 * G) 2 x3) (1 + 9 + 3 * G) 3 0) := sh_I hs3 (by decide) (kG hs3 hg) (Or.inl (by decide))
  have hA4 : Agk (DPx (SGd G)) σ (sI (sI (sI (sI σ (1 + 9 + 3 * G) 0 x1) (1 + 9 + 3 * G) 1 x2) (1 + 9 + 3 * G) 2 x3) (1 + 9 + 3 * G) 3 0) := ((((Agk.rf hs).sI hs1 d0).sI hs2 d1).sI hs3 d2).sI hs4 d3
  have f0 : (sI (sI (sI (sI σ (1 + 9 + 3 * G) 0 x1) (1 + 9 + 3 * G) 1 x2) (1 + 9 + 3 * G) 2 x3) (1 + 9 + 3 * G) 3 0).2.1 (1 + 9 + 3 * G) 0 = x1 := by rw [sI_at, if_neg (by omega), sI_at, if_neg (by omega), sI_at, if_neg (by omega), sI_at, if_pos ⟨rfl, rfl⟩]
  have f1 : (sI (sI (sI (sI σ (1 + 9 + 3 * G) 0 x1) (1 + 9 + 3 * G) 1 x2) (1 + 9 + 3 * G) 2 x3) (1 + 9 + 3 * G) 3 0).2.1 (1 + 9 + 3 * G) 1 = x2 := by rw [sI_at, if_neg (by omega), sI_at, if_neg (by omega), sI_at, if_pos ⟨rfl, rfl⟩]
  have f2 : (sI (sI (sI (sI σ (1 + 9 + 3 * G) 0 x1) (1 + 9 + 3 * G) 1 x2) (1 + 9 + 3 * G) 2 x3) (1 + 9 + 3 * G) 3 0).2.1 (1 + 9 + 3 * G) 2 = x3 := by rw [sI_at, if_neg (by omega), sI_at, if_pos ⟨rfl, rfl⟩]
  have f3 : (sI (sI (sI (sI σ (1 + 9 + 3 * G) 0 x1) (1 + 9 + 3 * G) 1 x2) (1 + 9 + 3 * G) 2 x3) (1 + 9 + 3 * G) 3 0).2.1 (1 + 9 + 3 * G) 3 = 0 := by rw [sI_at, if_pos ⟨rfl, rfl⟩]
  have f5 : (sI (sI (sI (sI σ (1 + 9 + 3 * G) 0 x1) (1 + 9 + 3 * G) 1 x2) (1 + 9 + 3 * G) 2 x3) (1 + 9 + 3 * G) 3 0).2.1 1 5 = (G : Int) := by rw [sI_at, if_neg (by omega), sI_at, if_neg (by omega), sI_at, if_neg (by omega), sI_at, if_neg (by omega), hG]
  refine C_X3_become hs hg ⟨h1, h2, h3, ?_⟩
  revert hA4 f0 f1 f2 f3 f5 hs4
  generalize sI (sI (sI (sI σ (1 + 9 + 3 * G) 0 x1) (1 + 9 + 3 * G) 1 x2) (1 + 9 + 3 * G) 2 x3) (1 + 9 + 3 * G) 3 0 = σ4
  intro hs4 hA4 f0 f1 f2 f3 f5
  refine c_fillI hs4 (by decide) (n := 4) t.2.1 (by decide) (fun σ5 hB hj => ⟨rfl, hB.1, rfl, hB.1, ?_⟩)
  have e5 : σ5.2.1 1 5 = (G : Int) := by rw [hB.2.2 1 5 (by omega), f5]
  rw [e5]
  have hs6 : Sh (sI σ5 1 5 ((G : Int) + 1)) := sh_I hB.1 (by omega) (hB.1.k (a := 1) rfl) (Or.inl (by decide))
  rw [sI_at, if_pos ⟨rfl, rfl⟩, show (G : Int) + 1 - 1 = (G : Int) by omega]
  have hA5 : Agk (DPx (SGd G)) σ σ5 := hA4.tr hB (fun _ _ q => q) (fun a k q => by rw [q.1]; exact dr k q.2)
  refine ⟨by omega, q1 hG5 _ (hA5.sI hs6 d5) (fun a k hp hq => ?_)⟩
  have g0 : ∀ k, σ5.2.1 (1 + 9 + 3 * G) k = σ4.2.1 (1 + 9 + 3 * G) k := fun k => hB.2.2 _ _ (by omega)
  unfold SGd at hq
  have hq2 : (a = 125 ∧ k = 0) ∨ (a = 126 ∧ k = G) ∨ (a = 127 ∧ k = G) ∨ (a = 128 ∧ k = G) ∨ (a = 129 ∧ k = G) ∨ (a = 130 ∧ ∃ j, j < 4 ∧ k = 4 * G + j) := by
    rcases hq with hq | hq | hq
    · exact Or.inl hq
    · omega
    · exact Or.inr (Or.inr (Or.inr (Or.inr (Or.inr ⟨hq.1, k - 4 * G, by omega, by omega⟩))))
  rcases hq2 with ⟨rfl, rfl⟩ | ⟨rfl, rfl⟩ | ⟨rfl, rfl⟩ | ⟨rfl, rfl⟩ | ⟨rfl, rfl⟩ | ⟨rfl, j, hj4, rfl⟩
  · show (sI σ5 1 5 ((G : Int) + 1)).2.1 1 5 = _
    rw [sI_at, if_pos ⟨rfl, rfl⟩]
    rfl
  · show (sI σ5 1 5 ((k : Int) + 1)).2.1 (1 + (9 + 3 * k)) 0 = x1
    rw [sI_at, if_neg (by omega), ← Nat.add_assoc, g0, f0]
  · show (sI σ5 1 5 ((k : Int) + 1)).2.1 (1 + (9 + 3 * k)) 1 = x2
    rw [sI_at, if_neg (by omega), ← Nat.add_assoc, g0, f1]
  · show (sI σ5 1 5 ((k : Int) + 1)).2.1 (1 + (9 + 3 * k)) 2 = x3
    rw [sI_at, if_neg (by omega), ← Nat.add_assoc, g0, f2]
  · show (sI σ5 1 5 ((k : Int) + 1)).2.1 (1 + (9 + 3 * k)) 3 = 0
    rw [sI_at, if_neg (by omega), ← Nat.add_assoc, g0, f3]
  · show (sI σ5 1 5 ((G : Int) + 1)).2.1 (1 + (10 + 3 * ((4 * G + j) / 4))) ((4 * G + j) % 4) = 0
    rw [show 1 + (10 + 3 * ((4 * G + j) / 4)) = 1 + 9 + 3 * G + 1 by omega, show (4 * G + j) % 4 = j by omega, sI_at, if_neg (by omega)]
    exact hj j hj4
theorem m_guardL {x1 x2 x3 : Int} {σ0 : mS} {G : Nat} (hG5 : G < 6) (h0 : ∀ σ1, Agk (DPm (SGd G)) σ0 σ1 → σ1.2.1 125 0 = (G : Int) → (∀ a k, vp a k → SGd G a k → a ≠ 125 → σ1.2.1 a k = nvG G x1 x2 x3 a) → Q (some (vI (G : Int))) (sI σ1 125 0 ((G : Int) + 1))) : ∀ (m i : Nat) (σ : mS), i + m = 4 → Agk (DPm (SGd G)) σ0 σ → σ.2.1 125 0 = (G : Int) → (∀ a k, vp a k → SGd G a k → a ≠ 125 → (a = 130 → k < 4 * G + i) → σ.2.1 a k = nvG G x1 x2 x3 a) → WP X (d + 1) (0, 0) MX11_guard 87 [(0, vP (some 125)), (4, vI (i : Int))] [] σ Q := by
  intro m
  induction m with
  | zero =>
    intro i σ hi hA hg hv
    refine C_X11_guard_87 hA.1 ⟨by omega, fun _ => ⟨by omega, ?_⟩, fun hz => absurd hz (by omega)⟩
    rw [hg]
    exact h0 σ hA hg (fun a k hp hq hn => hv a k hp hq hn (by unfold SGd at hq; omega))
  | succ m ih =>
    intro i σ hi hA hg hv
    refine C_X11_guard_87 hA.1 ⟨by omega, fun hz => absurd hz (by omega), fun _ => ⟨by omega, by omega, ?_⟩⟩
    rw [hg, show (4 * (G : Int) + (i : Int)).toNat = 4 * G + i by omega, show (i : Int) + 1 = ((i + 1 : Nat) : Int) by omega]
    have hs1 : Sh (sI σ 130 (4 * G + i) 0) := sh_I hA.1 (by decide) (hA.1.k (a := 130) rfl) (Or.inl (by decide))
    refine ih (i + 1) _ (by omega) (hA.sI hs1 ⟨by unfold vp; omega, by unfold SGd; omega⟩) (by rw [sI_at, if_neg (by omega), hg]) (fun a k hp hq hn hk => ?_)
    rw [sI_at]
    by_cases hz : a = 130 ∧ k = 4 * G + i
    · rw [if_pos hz, hz.1]
      rfl
    · rw [if_neg hz]
      exact hv a k hp hq hn (by omega)
theorem WFY.hr {nb : Int} (h : WFY nb Y) : (0 ≤ Y 125 28 ∧ Y 125 28 ≤ 5) ∧ ∀ i : Nat, (i : Int) < Y 125 28 → (0 ≤ Y 143 i ∧ Y 143 i < Y 125 0) ∧ (0 ≤ Y 144 i ∧ Y 144 i < Y 125 6) ∧ (Y 145 i = 0 ∨ Y 145 i = 1) := h.2.2.2.2.2.2.2.1
theorem WFY.bk {nb : Int} (h : WFY nb Y) : (0 ≤ Y 125 35 ∧ Y 125 35 ≤ 8) ∧ ∀ i : Nat, (i : Int) < Y 125 35 → (0 ≤ Y 148 i ∧ Y 148 i < Y 125 6) ∧ (0 ≤ Y 149 i ∧ Y 149 i ≤ 99) := h.2.2.2.2.2.2.2.2.2
theorem WFY.moreGd {nb : Int} {G : Nat} {x1 x2 x3 : Int} (h : WFY nb Y) (hG : Y 125 0 = (G : Int)) (hG5 : G < 6) (h1 : 0 ≤ x1 ∧ x1 ≤ 6) (h2 : 0 ≤ x2 ∧ x2 ≤ 9) (h3 : 0 ≤ x3 ∧ x3 ≤ 4095) (hv : ∀ a k, vp a k → SGd G a k → Z a k = nvG G x1 x2 x3 a) (ho : ∀ a k, FYm a k → ¬ SGd G a k → Z a k = Y a k) : WFY nb Z := by
  obtain ⟨p1, p2⟩ := h.pl
  obtain ⟨q1, q2⟩ := h.hr
  obtain ⟨b1, b2⟩ := h.bk
  obtain ⟨w1, w2, w3, w4, w5, w6, w7, -, -, -⟩ := h
  have n0 : Z 125 0 = (G : Int) + 1 := hv 125 0 (by unfold vp; omega) (by unfold SGd; omega)
  have sn : ∀ k, k ≠ 0 → ¬ SGd G 125 k := fun k hk q => by
    unfold SGd at q
    omega
  have c6 : Z 125 6 = Y 125 6 := ho 125 6 (Or.inl ⟨rfl, by decide⟩) (sn 6 (by decide))
  have c11 : Z 125 11 = Y 125 11 := ho 125 11 (Or.inl ⟨rfl, by decide⟩) (sn 11 (by decide))
  have c19 : Z 125 19 = Y 125 19 := ho 125 19 (Or.inl ⟨rfl, by decide⟩) (sn 19 (by decide))
  have c28 : Z 125 28 = Y 125 28 := ho 125 28 (Or.inl ⟨rfl, by decide⟩) (sn 28 (by decide))
  have c32 : Z 125 32 = Y 125 32 := ho 125 32 (Or.inl ⟨rfl, by decide⟩) (sn 32 (by decide))
  have c35 : Z 125 35 = Y 125 35 := ho 125 35 (Or.inl ⟨rfl, by decide⟩) (sn 35 (by decide))
  have a : ∀ a k, (131 ≤ a ∧ a ≤ 134) ∨ (143 ≤ a ∧ a ≤ 149) → Z a k = Y a k := fun a k hk => ho a k (Or.inr (hk.elim (fun q => Or.inl ⟨by omega, q.2⟩) (fun q => Or.inr q))) (fun q => by unfold SGd at q; omega)
  have ga : ∀ a k, 126 ≤ a ∧ a ≤ 130 → ¬ SGd G a k → Z a k = Y a k := fun a k hk hn => ho a k (Or.inr (Or.inl ⟨hk.1, by omega⟩)) hn
  unfold WFY
  rw [n0, c6, c11, c19, c28, c32, c35]
  refine ⟨by omega, w2, w3, w4, fun p hp => ?_, fun i hi => ?_, fun q hq => ?_, ⟨q1, fun i hi => ?_⟩, ⟨p1, fun i hi => ?_⟩, ⟨b1, fun i hi => ?_⟩⟩
  · by_cases hz : p = G
    · have e1 : Z 126 p = x1 := hv 126 p (by unfold vp; omega) (by unfold SGd; omega)
      have e2 : Z 127 p = x2 := hv 127 p (by unfold vp; omega) (by unfold SGd; omega)
      have e3 : Z 128 p = x3 := hv 128 p (by unfold vp; omega) (by unfold SGd; omega)
      have e4 : Z 129 p = 0 := hv 129 p (by unfold vp; omega) (by unfold SGd; omega)
      omega
    · rw [ga 126 p (by decide) (by unfold SGd; omega), ga 127 p (by decide) (by unfold SGd; omega), ga 128 p (by decide) (by unfold SGd; omega), ga 129 p (by decide) (by unfold SGd; omega)]
      exact w5 p hp
  · by_cases hz : 4 * G ≤ i ∧ i < 4 * G + 4
    · have e1 : Z 130 i = 0 := hv 130 i (by unfold vp; omega) (by unfold SGd; omega)
      omega
    · rw [ga 130 i (by decide) (by unfold SGd; omega)]
      exact w6 i hi
  · have := w7 q hq
    rw [a 131 q (by omega), a 132 q (by omega), a 133 q (by omega), a 134 q (by omega)]
    refine ⟨this.1, this.2.1, this.2.2.1, fun hl => ?_⟩
    have := this.2.2.2 hl
    omega
  · have := q2 i hi
    rw [a 143 i (by omega), a 144 i (by omega), a 145 i (by omega)]
    exact ⟨by omega, this.2⟩
  · have := p2 i hi
    rw [a 146 i (by omega), a 147 i (by omega)]
    refine ⟨this.1, fun h1 => ?_, fun h1 => ?_, this.2.2.2⟩
    · have := this.2.1 h1
      omega
    · have := this.2.2.1 h1
      omega
  · rw [a 148 i (by omega), a 149 i (by omega)]
    exact b2 i hi
end GUARDOP
