/-! a question is asked of a guard: on both sides -/
section PUTS
variable {X : mX} {d : Nat} {σ : mS} {Q : Option mV → mS → Prop} {y : Nat} {Y : mY} {B : List mCl}
def putY (B : List mCl) (Y : mY) (q p : Nat) : mY :=
  if ansY B Y p (Y 131 q).toNat then mU (mU Y 133 q 1) 129 p (min 99 (Y 129 p + 10)) else mU (mU Y 133 q 2) 128 p (((Y 128 p).toNat ||| lob (nd (Y 131 q).toNat (Y 128 p).toNat) : Nat) : Int)
/-- asked of guard x, if there is one and the question waits -/
def askY (B : List mCl) (Y : mY) (q : Nat) (x : Int) : mY := if Y 133 q = 0 ∧ 0 ≤ x ∧ x < Y 125 0 then putY B Y q x.toNat else Y
theorem mUs (Y : mY) (a k : Nat) (z : Int) (b j : Nat) : mU Y a k z b j = if b = a ∧ j = k then z else Y b j := rfl
theorem WFY.mUp {nb : Int} {a0 k0 : Nat} {z : Int} (h : WFY nb Y) (hr : (a0 = 128 ∧ 0 ≤ z ∧ z < 4096) ∨ (a0 = 129 ∧ 0 ≤ z ∧ z ≤ 99) ∨ (a0 = 130 ∧ 0 ≤ z ∧ z ≤ 9) ∨ (a0 = 133 ∧ 0 ≤ z ∧ z ≤ 2) ∨ (a0 = 134 ∧ (z = -5 ∨ (0 ≤ z ∧ z < Y 125 0)))) : WFY nb (mU Y a0 k0 z) :=
  h.upd (fun a k q => by rw [mUs, if_neg q]) (by rw [mUs, if_pos ⟨rfl, rfl⟩]) hr
theorem putY_wf {nb : Int} (h : WFY nb Y) {q p : Nat} (hq : q < 6) (hp : p < 6) : WFY nb (putY B Y q p) := by
  have g := h.g hp
  have gq := h.q hq
  unfold putY
  split
  · exact (h.mUp (a0 := 133) (by omega)).mUp (by omega)
  · have h1 := lob_lt (nd (Y 131 q).toNat (Y 128 p).toNat) (nd_lt (by omega))
    have h2 := or_lt (a := (Y 128 p).toNat) (by omega) h1
    exact (h.mUp (a0 := 133) (by omega)).mUp (Or.inl ⟨rfl, by omega, by omega⟩)
theorem putY_o {q p a k : Nat} (h : a ≠ 128 ∧ a ≠ 129 ∧ a ≠ 133) : putY B Y q p a k = Y a k := by
  unfold putY
  split
  · rw [mUs, if_neg (by omega), mUs, if_neg (by omega)]
  · rw [mUs, if_neg (by omega), mUs, if_neg (by omega)]
theorem putY_n {q p a k : Nat} (h : ¬ (a = 128 ∧ k = p) ∧ ¬ (a = 129 ∧ k = p) ∧ ¬ (a = 133 ∧ k = q)) : putY B Y q p a k = Y a k := by
  unfold putY
  split
  · rw [mUs, if_neg (by omega), mUs, if_neg (by omega)]
  · rw [mUs, if_neg (by omega), mUs, if_neg (by omega)]
theorem askY_wf {nb : Int} (h : WFY nb Y) {q : Nat} {x : Int} (hq : q < 6) : WFY nb (askY B Y q x) := by
  have := h.1
  unfold askY
  split
  · exact putY_wf h hq (by omega)
  · exact h
theorem askY_o {q a k : Nat} {x : Int} (h : a ≠ 128 ∧ a ≠ 129 ∧ a ≠ 133) : askY B Y q x a k = Y a k := by
  unfold askY
  split
  · exact putY_o h
  · rfl
/-- what a run of the given one's rules over a yard can touch -/
def DX (y : Nat) : Nat → Nat → Prop := fun a k => (87 ≤ a ∧ a ≤ 102 ∧ a % 3 = 0) ∨ FYx y a k
theorem DX_ok (hy : isY y) : okD (DX y) := fun a k h => by
  unfold DX FYx at h
  rcases hy with rfl | rfl | rfl <;> omega
theorem D85_X : ∀ a k, D85 a k → DX y a k := fun _ _ h => Or.inl h
/-- one place of a yard is set -/
theorem YR.setY (h : YR σ y Y) {a0 k0 : Nat} {z : Int} (hv : vp a0 k0) (h9 : a0 ≠ 146) : YR (sI σ (y + (px a0 k0).1) (px a0 k0).2 z) y (mU Y a0 k0 z) := by
  refine h.sets (fun a k => a = a0 ∧ k = k0) (fun a k ⟨e1, e2⟩ => by rw [e1, e2]; exact hv) (fun k ⟨e1, _⟩ => absurd e1.symm h9) (fun a k ⟨e1, e2⟩ => ?_) (fun a k hf hne => ?_) (fun a k hp hne => ?_)
  · rw [e1, e2, sI_at, if_pos ⟨rfl, rfl⟩, mUs, if_pos ⟨rfl, rfl⟩]
  · rw [sI_at, if_neg (hne a0 k0 ⟨rfl, rfl⟩)]
  · rw [mUs, if_neg hne]
theorem YB.dx {σ' : mS} {Y' : mY} (h : YB σ y Y B) (ha : Agk (DX y) σ σ') (hY : YR σ' y Y') (hW : WFY (σ.2.1 125 18) Y') (h19 : Y' 125 19 = Y 125 19) : YB σ' y Y' B := by
  refine ⟨ha.1, h.2.1, hY, ?_, ?_⟩
  · rw [ha.2.2 125 18 (fun q => (DX_ok h.2.1 _ _ q).2.2.1 ⟨rfl, Or.inl rfl⟩)]
    exact hW
  · rw [h19]
    exact h.2.2.2.2.fr ha (DX_ok h.2.1)
theorem c_putTo (h : YB σ y Y B) {q : Nat} (hq : (q : Int) < Y 125 6) {x : Int} (hx : -2147483648 ≤ x ∧ x ≤ 2147483647) (hQ : ∀ σ', Agk (DX y) σ σ' → YB σ' y (askY B Y q x) B → Q none σ') : CALL X (d + 7) (0, 0) MX7_putTo [vP (some 83), vP (some y), vI (q : Int), vI x] σ Q := by
  have hs := h.1
  have hc := h.c
  have hle := h.le
  have hq6 : q < 6 := by omega
  have gq := h.q hq6
  have wq := h.2.2.2.1.q hq6
  have same : ¬ (Y 133 q = 0 ∧ 0 ≤ x ∧ x < Y 125 0) → Q none σ := fun hn => hQ σ (Agk.rf hs) (by unfold askY; rw [if_neg hn]; exact h)
  refine C_X7_putTo hs h.2.1 (c_questionY h hq ⟨_, rfl, hs, ?_⟩)
  by_cases hp : 0 ≤ x ∧ x < Y 125 0
  · obtain ⟨p, rfl⟩ : ∃ p : Nat, x = (p : Int) := ⟨x.toNat, by omega⟩
    have hp6 : p < 6 := by omega
    refine c_guardY h hp.2 ⟨_, rfl, hs, fun hz => (by cases hz), fun a1 ha1 => ?_⟩
    obtain rfl := Option.some.inj ha1
    refine ⟨h.isQ hq6, fun hz => (by cases hz), fun a2 ha2 => ?_⟩
    obtain rfl := Option.some.inj ha2
    rw [gq.2.2.1, gq.1]
    refine ⟨h.isG hp6, fun h0 => ?_, fun h0 => same (fun q' => h0 q'.1)⟩
    obtain ⟨m, hm⟩ : ∃ m : Nat, Y 131 q = (m : Int) := ⟨(Y 131 q).toNat, by omega⟩
    rw [hm]
    refine c_ansNow h hp.2 (by omega) (fun σ1 hA => ⟨_, rfl, hA.1, fun hz => ?_, fun hz => ?_⟩)
    all_goals have h1 := h.f85 hA
    all_goals have g1 := h1.g hp6
    all_goals have q1 := h1.q hq6
    all_goals have wg := h.2.2.2.1.g hp6
    · obtain ⟨kn, hkn⟩ : ∃ n : Nat, Y 128 p = (n : Int) := ⟨(Y 128 p).toNat, by omega⟩
      have hs2 : Sh (sI σ1 (y + 11 + 3 * q) 2 2) := sh_I hA.1 (by decide) (kQ hA.1 (h.isQ hq6)) (Or.inl (by decide))
      have e1 : (sI σ1 (y + 11 + 3 * q) 2 2).2.1 (y + 11 + 3 * q) 0 = (m : Int) := by rw [sI_at, if_neg (by omega), q1.1, hm]
      have e2 : (sI σ1 (y + 11 + 3 * q) 2 2).2.1 (y + 9 + 3 * p) 2 = (kn : Int) := by rw [sI_at, if_neg (by omega), g1.2.2.1, hkn]
      have hm4 : m < 4096 := by omega
      have hl := lob_lt (nd m kn) (nd_lt hm4)
      have ho := or_lt (a := kn) (by omega) hl
      rw [e1, e2, band_nd hm4]
      refine c_lowest (nd_lt hm4) ⟨_, rfl, hs2, ?_⟩
      rw [bor_n (by omega) (by omega)]
      have hs3 : Sh (sI (sI σ1 (y + 11 + 3 * q) 2 2) (y + 9 + 3 * p) 2 ((kn ||| lob (nd m kn) : Nat) : Int)) := sh_I hs2 (by omega) (kG hs2 (h.isG hp6)) (Or.inl (by decide))
      have hA3 : Agk (DX y) σ (sI (sI σ1 (y + 11 + 3 * q) 2 2) (y + 9 + 3 * p) 2 ((kn ||| lob (nd m kn) : Nat) : Int)) := ((hA.mono D85_X).sI hs2 (Or.inr (by unfold FYx; omega))).sI hs3 (Or.inr (by unfold FYx; omega))
      have eY : askY B Y q (p : Int) = mU (mU Y 133 q 2) 128 p ((kn ||| lob (nd m kn) : Nat) : Int) := by
        unfold askY putY
        rw [if_pos ⟨h0, hp⟩, show ((p : Int)).toNat = p by omega, hm, hkn, show ((m : Int)).toNat = m by omega, show ((kn : Int)).toNat = kn by omega, hz]
        rfl
      refine hQ _ hA3 (h.dx hA3 ?_ (askY_wf h.2.2.2.1 hq6) (askY_o (by decide)))
      rw [eY]
      have k1 := h1.2.2.1.setY (a0 := 133) (k0 := q) (z := 2) (by unfold vp; omega) (by decide)
      rw [show y + (px 133 q).1 = y + 11 + 3 * q from (Nat.add_assoc y 11 _).symm] at k1
      have k2 := k1.setY (a0 := 128) (k0 := p) (z := ((kn ||| lob (nd m kn) : Nat) : Int)) (by unfold vp; omega) (by decide)
      rw [show y + (px 128 p).1 = y + 9 + 3 * p from (Nat.add_assoc y 9 _).symm] at k2
      exact k2
    · have hs2 : Sh (sI σ1 (y + 11 + 3 * q) 2 1) := sh_I hA.1 (by decide) (kQ hA.1 (h.isQ hq6)) (Or.inl (by decide))
      have e2 : (sI σ1 (y + 11 + 3 * q) 2 1).2.1 (y + 9 + 3 * p) 3 = Y 129 p := by rw [sI_at, if_neg (by omega), g1.2.2.2.1]
      rw [e2]
      refine ⟨by omega, ?_⟩
      have hs3 : Sh (sI (sI σ1 (y + 11 + 3 * q) 2 1) (y + 9 + 3 * p) 3 (min 99 (Y 129 p + 10))) := sh_I hs2 (by omega) (kG hs2 (h.isG hp6)) (Or.inl (by decide))
      have hA3 : Agk (DX y) σ (sI (sI σ1 (y + 11 + 3 * q) 2 1) (y + 9 + 3 * p) 3 (min 99 (Y 129 p + 10))) := ((hA.mono D85_X).sI hs2 (Or.inr (by unfold FYx; omega))).sI hs3 (Or.inr (by unfold FYx; omega))
      have eY : askY B Y q (p : Int) = mU (mU Y 133 q 1) 129 p (min 99 (Y 129 p + 10)) := by
        unfold askY putY
        rw [if_pos ⟨h0, hp⟩, show ((p : Int)).toNat = p by omega, hm, show ((m : Int)).toNat = m by omega, hz]
        rfl
      refine hQ _ hA3 (h.dx hA3 ?_ (askY_wf h.2.2.2.1 hq6) (askY_o (by decide)))
      rw [eY]
      have k1 := h1.2.2.1.setY (a0 := 133) (k0 := q) (z := 1) (by unfold vp; omega) (by decide)
      rw [show y + (px 133 q).1 = y + 11 + 3 * q from (Nat.add_assoc y 11 _).symm] at k1
      have k2 := k1.setY (a0 := 129) (k0 := p) (z := min 99 (Y 129 p + 10)) (by unfold vp; omega) (by decide)
      rw [show y + (px 129 p).1 = y + 9 + 3 * p from (Nat.add_assoc y 9 _).symm] at k2
      exact k2
  · refine c_guardN h hx hp ⟨_, rfl, hs, fun hz => (by cases hz), fun a1 ha1 => ?_⟩
    obtain rfl := Option.some.inj ha1
    exact ⟨h.isQ hq6, fun _ => same (fun q' => hp q'.2), fun a2 ha2 => by cases ha2⟩
/-- what a run of the reference's rules can touch -/
def DM : Nat → Nat → Prop := fun a k => a = 142 ∨ vp a k
theorem DM_ok : okD DM := fun a k h => by unfold DM vp at h; omega
theorem D155_M : ∀ a k, D155 a k → DM a k := fun _ _ h => Or.inl h
theorem MB.dm {σ' : mS} {Y' : mY} (h : MB σ B) (ha : Agk DM σ σ') (hW : WFY (σ.2.1 125 18) Y') (hm : ∀ a k, FYm a k → ¬ (a = 125 ∧ k = 18) → σ'.2.1 a k = Y' a k) (h19 : Y' 125 19 = σ.2.1 125 19) : MB σ' B := by
  refine ⟨ha.1, ?_, ?_⟩
  · rw [ha.2.2 125 18 (fun q => (DM_ok _ _ q).2.2.1 ⟨rfl, Or.inl rfl⟩)]
    exact hW.cg' (fun a k hf hk => hm a k hf (by omega))
  · rw [hm 125 19 (by unfold FYm; omega) (by omega), h19]
    exact h.2.2.fr ha DM_ok
theorem m_asks (h : MB σ B) {q p : Nat} (hq : q < 6) (hp : p < 6) (hQ : ∀ σ', Agk DM σ σ' → (∀ a k, a ≠ 142 → σ'.2.1 a k = putY B σ.2.1 q p a k) → Q none σ') : CALL X (d + 6) (0, 0) MX11_asks [vP (some 125), vI (q : Int), vI (p : Int)] σ Q := by
  have hs := h.1
  have wq := h.2.1.q hq
  have wg := h.2.1.g hp
  refine C_X11_asks hs ⟨by omega, by omega, ?_⟩
  rw [show ((q : Int)).toNat = q by omega, show ((p : Int)).toNat = p by omega]
  obtain ⟨m, hm⟩ : ∃ m : Nat, σ.2.1 131 q = (m : Int) := ⟨(σ.2.1 131 q).toNat, by omega⟩
  obtain ⟨kn, hkn⟩ : ∃ n : Nat, σ.2.1 128 p = (n : Int) := ⟨(σ.2.1 128 p).toNat, by omega⟩
  unfold putY at hQ
  rw [hm, hkn, show ((m : Int)).toNat = m by omega, show ((kn : Int)).toNat = kn by omega] at hQ
  rw [hm]
  have hm4 : m < 4096 := by omega
  refine m_ans h hp hm4 (fun σ1 hA => ⟨_, rfl, hA.1, fun hz => ⟨by omega, by omega, ?_, ?_⟩, fun hz => ⟨by omega, by omega, ?_⟩⟩)
  · have hs2 : Sh (sI σ1 133 q 2) := sh_I hA.1 (by decide) (hA.1.k (a := 133) rfl) (Or.inl (by decide))
    have e1 : (sI σ1 133 q 2).2.1 131 q = (m : Int) := by rw [sI_at, if_neg (by omega), hA.n155 (by decide), hm]
    have e2 : (sI σ1 133 q 2).2.1 128 p = (kn : Int) := by rw [sI_at, if_neg (by omega), hA.n155 (by decide), hkn]
    rw [e1, e2, band_nd hm4]
    intro hn
    have hn0 : nd m kn = 0 := by omega
    refine hQ _ ((hA.mono D155_M).sI hs2 (Or.inr (by unfold vp; omega))) (fun a k ha => ?_)
    rw [hz, hn0, lob_0, Nat.or_zero]
    simp only [Bool.false_eq_true, if_false]
    rw [mUs]
    by_cases h1 : a = 128 ∧ k = p
    · rw [if_pos h1, h1.1, h1.2, e2]
    · rw [if_neg h1, mUs, sI_at]
      by_cases h2 : a = 133 ∧ k = q
      · rw [if_pos h2, if_pos h2]
      · rw [if_neg h2, if_neg h2]
        exact hA.n155 ha
  · have hs2 : Sh (sI σ1 133 q 2) := sh_I hA.1 (by decide) (hA.1.k (a := 133) rfl) (Or.inl (by decide))
    have e1 : (sI σ1 133 q 2).2.1 131 q = (m : Int) := by rw [sI_at, if_neg (by omega), hA.n155 (by decide), hm]
    have e2 : (sI σ1 133 q 2).2.1 128 p = (kn : Int) := by rw [sI_at, if_neg (by omega), hA.n155 (by decide), hkn]
    have hl := lob_lt (nd m kn) (nd_lt hm4)
    have ho := or_lt (a := kn) (by omega) hl
    rw [e1, e2, band_nd hm4]
    intro hn
    refine c_ntz (nd_lt hm4) (by omega) (fun z hz2 => ⟨_, rfl, hs2, ?_⟩)
    rw [hz2, bor_n (by omega) (by omega)]
    have hs3 : Sh (sI (sI σ1 133 q 2) 128 p ((kn ||| lob (nd m kn) : Nat) : Int)) := sh_I hs2 (by omega) (hs2.k (a := 128) rfl) (Or.inl (by decide))
    refine hQ _ (((hA.mono D155_M).sI hs2 (Or.inr (by unfold vp; omega))).sI hs3 (Or.inr (by unfold vp; omega))) (fun a k ha => ?_)
    rw [hz]
    simp only [Bool.false_eq_true, if_false]
    rw [mUs, sI_at, mUs, sI_at]
    repeat' split
    all_goals first | rfl | exact hA.n155 ha
  · have hs2 : Sh (sI σ1 133 q 1) := sh_I hA.1 (by decide) (hA.1.k (a := 133) rfl) (Or.inl (by decide))
    have e2 : (sI σ1 133 q 1).2.1 129 p = σ.2.1 129 p := by rw [sI_at, if_neg (by omega), hA.n155 (by decide)]
    rw [e2]
    have hs3 : Sh (sI (sI σ1 133 q 1) 129 p (min 99 (σ.2.1 129 p + 10))) := sh_I hs2 (by omega) (hs2.k (a := 129) rfl) (Or.inl (by decide))
    refine ⟨by omega, hQ _ (((hA.mono D155_M).sI hs2 (Or.inr (by unfold vp; omega))).sI hs3 (Or.inr (by unfold vp; omega))) (fun a k ha => ?_)⟩
    rw [hz]
    simp only [if_true]
    rw [mUs, sI_at, mUs, sI_at]
    repeat' split
    all_goals first | rfl | exact hA.n155 ha
end PUTS
