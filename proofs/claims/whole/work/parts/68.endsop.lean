/-! ends -/
section ENDSOP
variable {X : mX} {d : Nat} {σ : mS} {Q : Option mV → mS → Prop} {y : Nat} {Y Z : mY} {B : List mCl}
def rowY (B : List mCl) (Y : mY) (w n : Int) : mY := if w = 0 then hourY B Y else if w = 1 then askY B Y (n / 10).toNat (n % 10) else if w = 2 then mU Y 129 n.toNat 0 else mU Y 133 n.toNat 0
def planR (B : List mCl) : Nat → Nat → mY → mY
  | 0, _, Y => Y
  | m + 1, i, Y => planR B m (i + 1) (rowY B Y (Y 146 i) (Y 147 i))
theorem rowY_o {a k : Nat} {w n : Int} (h : a ≠ 128 ∧ a ≠ 129 ∧ a ≠ 133 ∧ ¬ (a = 125 ∧ k = 11)) : rowY B Y w n a k = Y a k := by
  unfold rowY
  split
  · exact hourY_o h
  · split
    · exact askY_o ⟨h.1, h.2.1, h.2.2.1⟩
    · split
      · rw [mUs, if_neg (by omega)]
      · rw [mUs, if_neg (by omega)]
theorem rowY_h {w n : Int} : rowY B Y w n 125 11 ≤ Y 125 11 + 1 := by
  unfold rowY
  split
  · rw [hourY_h]; omega
  · split
    · rw [askY_o (by decide)]; omega
    · split
      · rw [mUs, if_neg (by omega)]; omega
      · rw [mUs, if_neg (by omega)]; omega
theorem planR_o {a k : Nat} (h : a ≠ 128 ∧ a ≠ 129 ∧ a ≠ 133 ∧ ¬ (a = 125 ∧ k = 11)) : ∀ (m i : Nat) (Y : mY), planR B m i Y a k = Y a k
  | 0, _, _ => rfl
  | m + 1, i, Y => (planR_o h m (i + 1) _).trans (rowY_o h)
theorem rowY_e {Y Y' : mY} (h : EY Y Y') (w n : Int) : EY (rowY B Y w n) (rowY B Y' w n) := by
  unfold rowY
  split
  · exact hourY_e h
  · split
    · exact askY_e h _ _
    · split
      · exact h.mU _ _ _
      · exact h.mU _ _ _
theorem planR_e : ∀ (m i : Nat) {Y Y' : mY}, EY Y Y' → EY (planR B m i Y) (planR B m i Y')
  | 0, _, _, _, h => h
  | m + 1, i, Y, Y', h => by
    simp only [planR]
    rw [h.a (a := 146) (by decide), h.a (a := 147) (by decide)]
    exact planR_e m (i + 1) (rowY_e h _ _)
theorem WFY.pl {nb : Int} (h : WFY nb Y) : (0 ≤ Y 125 32 ∧ Y 125 32 ≤ 10) ∧ ∀ i : Nat, (i : Int) < Y 125 32 → (0 ≤ Y 146 i ∧ Y 146 i ≤ 3) ∧ (Y 146 i = 1 → 0 ≤ Y 147 i ∧ Y 147 i / 10 < Y 125 6 ∧ Y 147 i % 10 < Y 125 0) ∧ (Y 146 i = 2 → 0 ≤ Y 147 i ∧ Y 147 i < Y 125 0) ∧ (Y 146 i = 3 → 0 ≤ Y 147 i ∧ Y 147 i < Y 125 6) := h.2.2.2.2.2.2.2.2.1
theorem c_row (h : YB σ y Y B) (h11 : Y 125 11 < 1000000) {w n n' : Int} (hw : 0 ≤ w ∧ w ≤ 3) (hn : w ≠ 0 → n' = n) (hnr : -2147483648 ≤ n' ∧ n' ≤ 2147483647) (w1 : w = 1 → 0 ≤ n ∧ n / 10 < Y 125 6 ∧ n % 10 < Y 125 0) (w2 : w = 2 → 0 ≤ n ∧ n < Y 125 0) (w3 : w = 3 → 0 ≤ n ∧ n < Y 125 6) (hQ : ∀ σ', Agk (DX y) σ σ' → YB σ' y (rowY B Y w n) B → Q none σ') : CALL X (d + 9) (0, 0) MX7_carryOut [vP (some 83), vP (some y), vI w, vI n'] σ Q := by
  have hs := h.1
  have hc := h.c
  unfold rowY at hQ
  refine C_X7_carryOut hs h.2.1 ⟨by omega, fun k0 => ⟨fun k1 => ⟨fun k2 => ?_, fun k2 => ?_⟩, fun k1 => ?_⟩, fun k0 => ?_⟩
  · have hn := hn k0
    subst hn
    have w3 := w3 (by omega)
    obtain ⟨q, rfl⟩ : ∃ q : Nat, n' = (q : Int) := ⟨n'.toNat, by omega⟩
    rw [if_neg k0, if_neg k1, if_neg k2, show ((q : Int)).toNat = q by omega] at hQ
    refine c_questionY h w3.2 ⟨_, rfl, hs, fun hz => (by cases hz), fun a ha => ?_⟩
    obtain rfl := Option.some.inj ha
    have hs2 : Sh (sI σ (y + 11 + 3 * q) 2 0) := sh_I hs (by decide) (kQ hs (h.isQ (by omega))) (Or.inl (by decide))
    have hA2 : Agk (DX y) σ (sI σ (y + 11 + 3 * q) 2 0) := (Agk.rf hs).sI hs2 (Or.inr (by unfold FYx; omega))
    have k1 := h.2.2.1.setY (a0 := 133) (k0 := q) (z := 0) (by unfold vp; omega) (by decide)
    rw [show y + (px 133 q).1 = y + 11 + 3 * q from (Nat.add_assoc y 11 _).symm] at k1
    exact ⟨h.isQ (by omega), hQ _ hA2 (h.dx hA2 k1 (h.2.2.2.1.mUp (by omega)) (by rw [mUs, if_neg (by omega)]))⟩
  · have hn := hn k0
    subst hn
    have w2 := w2 k2
    obtain ⟨p, rfl⟩ : ∃ q : Nat, n' = (q : Int) := ⟨n'.toNat, by omega⟩
    rw [if_neg k0, if_neg k1, if_pos k2, show ((p : Int)).toNat = p by omega] at hQ
    refine c_guardY h w2.2 ⟨_, rfl, hs, fun hz => (by cases hz), fun a ha => ?_⟩
    obtain rfl := Option.some.inj ha
    have hs2 : Sh (sI σ (y + 9 + 3 * p) 3 0) := sh_I hs (by decide) (kG hs (h.isG (by omega))) (Or.inl (by decide))
    have hA2 : Agk (DX y) σ (sI σ (y + 9 + 3 * p) 3 0) := (Agk.rf hs).sI hs2 (Or.inr (by unfold FYx; omega))
    have k1 := h.2.2.1.setY (a0 := 129) (k0 := p) (z := 0) (by unfold vp; omega) (by decide)
    rw [show y + (px 129 p).1 = y + 9 + 3 * p from (Nat.add_assoc y 9 _).symm] at k1
    exact ⟨h.isG (by omega), hQ _ hA2 (h.dx hA2 k1 (h.2.2.2.1.mUp (by omega)) (by rw [mUs, if_neg (by omega)]))⟩
  · have hn := hn k0
    subst hn
    have w1 := w1 k1
    rw [if_neg k0, if_pos k1] at hQ
    refine ⟨by omega, ?_⟩
    rw [tdiv10 (by omega), tmod10 (by omega), show n' / 10 = (((n' / 10).toNat : Nat) : Int) by omega]
    exact c_putTo h (by omega) (by omega) (fun σ1 hA k1 => ⟨rfl, hA.1, hQ σ1 hA k1⟩)
  · rw [if_pos k0] at hQ
    exact c_hour h h11 (fun σ1 hA k1 => ⟨rfl, hA.1, hQ σ1 hA k1⟩)
def endR (Z : mY) (x : Int) : Int := if x = 0 then thr Z (Z 125 6).toNat 0 else (cntF (soF Z 2) (Z 125 6).toNat 0 : Int)
theorem endR_e {Y Y' : mY} (h : EY Y Y') (x : Int) : endR Y' x = endR Y x := by
  unfold endR
  rw [h.c (k := 6) (by decide), thr_e h, soF_e h]
theorem endR_r {nb : Int} (h : WFY nb Z) (x : Int) : -2147483648 ≤ endR Z x ∧ endR Z x ≤ 2147483647 := by
  have h6 := h.2.1
  unfold endR
  split
  · have := thr_r h (Z 125 6).toNat 0 (by omega)
    omega
  · have := cntF_le (soF Z 2) (Z 125 6).toNat 0
    omega
theorem c_planL {σ0 : mS} {x1 : Int} (h1 : 0 ≤ x1 ∧ x1 ≤ 1) (hQ : ∀ σ', Agk (DX 55) σ0 σ' → YB σ' 55 Z B → Q (some (vI (endR Z x1))) σ') : ∀ (m i : Nat) (σ : mS) (Y1 : mY), (i : Int) + m = Y1 125 32 → Agk (DX 55) σ0 σ → YB σ 55 Y1 B → Y1 125 11 + m < 1000000 → planR B m i Y1 = Z → WP X (d + 11) (0, 0) MX10_ends 24 [(0, vP (some 0)), (1, vI x1), (2, vI (i : Int))] [] σ Q := by
  intro m
  induction m with
  | zero =>
    intro i σ Y1 hi hA h h11 hE
    have e2 : σ.2.1 60 2 = Y1 125 32 := h.2.2.1.2.2.2.2.1.1
    simp only [planR] at hE
    subst hE
    have hw := h.2.2.2.1.pl.1
    have q := hQ σ hA h
    unfold endR at q
    refine C_X10_ends_24 h.1 ⟨by omega, fun _ => ⟨by omega, fun n0 => c_fin h ⟨_, rfl, h.1, ?_⟩, fun n0 => c_thr h ⟨_, rfl, h.1, ?_⟩⟩, fun hz => absurd hz (by omega)⟩
    · rw [if_neg n0] at q
      exact q
    · rw [if_pos n0] at q
      exact q
  | succ m ih =>
    intro i σ Y1 hi hA h h11 hE
    obtain ⟨e2', e3'⟩ := h.2.2.1.2.2.2.2.1
    have e2 : σ.2.1 60 2 = Y1 125 32 := e2'
    have hw := h.2.2.2.1.pl
    have hw2 := hw.2 i (by omega)
    have e3 : σ.2.1 (60 + 1) (3 * i) = Y1 146 i ∧ (Y1 146 i = 0 ∨ σ.2.1 (60 + 1) (3 * i + 1) = Y1 147 i) := e3' i (by omega)
    have hR : isR 60 := isR3 (y := 55) h.2.1
    have hM : rM 60 = 10 := (rM_y h.2.1).2.1
    simp only [planR] at hE
    refine C_X10_ends_24 h.1 ⟨by omega, fun hz => absurd hz (by omega), fun _ => C_X6_first h.1 hR (c_cell h.1 hR (by omega) (by decide) (by rw [hM]; omega) ⟨_, rfl, h.1, _, rfl, h.1, C_X6_second h.1 hR (c_cell h.1 hR (by omega) (by decide) (by rw [hM]; omega) ⟨_, rfl, h.1, _, rfl, h.1, ?_⟩)⟩)⟩
    rw [show 3 * ((i : Int)).toNat + ((0 : Int)).toNat = 3 * i by omega, show 3 * ((i : Int)).toNat + ((1 : Int)).toNat = 3 * i + 1 by omega, e3.1, show (i : Int) + 1 = ((i + 1 : Nat) : Int) by omega]
    refine c_row h (by omega) (n := Y1 147 i) hw2.1 (fun hn => e3.2.resolve_left hn) (h.1.2.2.1 _ _) hw2.2.1 hw2.2.2.1 hw2.2.2.2 (fun σ1 hA1 h1 => ⟨rfl, hA1.1, ih (i + 1) σ1 _ ?_ (DX_tr hA hA1) h1 ?_ hE⟩)
    · rw [rowY_o (by decide)]; omega
    · have := rowY_h (B := B) (Y := Y1) (w := Y1 146 i) (n := Y1 147 i)
      omega
theorem c_ends (hX : YB σ 1 Y B) (h11 : Y 125 11 ≤ 9999) {x1 : Int} (h1 : -2147483648 ≤ x1 ∧ x1 ≤ 2147483647) (q0 : ¬ (0 ≤ x1 ∧ x1 ≤ 1) → Q (some (vI (-1))) σ)
    (q2 : 0 ≤ x1 ∧ x1 ≤ 1 → ∀ σ', Agk DS σ σ' → WFY (σ.2.1 125 18) (planR B (Y 125 32).toNat 0 Y) → Q (some (vI (endR (planR B (Y 125 32).toNat 0 Y) x1))) σ') : CALL X (d + 11) (0, 0) MX10_ends [vP (some 0), vI x1] σ Q := by
  have hs := hX.1
  have wf : ∀ {σ2 : mS}, Agk DS σ σ2 → YB σ2 55 (planR B (Y 125 32).toNat 0 Y) B → WFY (σ.2.1 125 18) (planR B (Y 125 32).toNat 0 Y) := fun {σ2} hAB k2 => by
    have := k2.2.2.2.1
    rw [hAB.2.2 125 18 (fun q => (DS_ok _ _ q).2.2.1 ⟨rfl, Or.inl rfl⟩)] at this
    exact this
  have hpl := hX.2.2.2.1.pl.1
  have run : 0 ≤ x1 ∧ x1 ≤ 1 → CALL X (d + 10) (0, 0) MX9_copy [vP (some 55), vP (some 1)] σ (fun v5 σ3 => v5 = none ∧ Sh σ3 ∧ WP X (d + 11) (0, 0) MX10_ends 24 [(0, vP (some 0)), (1, vI x1), (2, vI 0)] [] σ3 Q) := fun o =>
    c_copy hs (Or.inr (Or.inr rfl)) (Or.inl rfl) (by decide) hX.2.2.1 hX.2.2.2.1 (fun σ1 hA hY => ⟨rfl, hA.1, c_planL (d := d) (σ0 := σ1) (Z := planR B (Y 125 32).toNat 0 Y) o (fun σ2 hB k2 => have hAB : Agk DS σ σ2 := hA.tr hB FYx55_S DX55_S; q2 o σ2 hAB (wf hAB k2)) (Y 125 32).toNat 0 σ1 Y (by omega) (Agk.rf hA.1) (hX.from (Or.inr (Or.inr rfl)) hA hY) (by omega) rfl⟩)
  exact C_X10_ends hs ⟨h1, fun k0 => run (by omega), fun k0 => ⟨fun k1 => run (by omega), fun k1 => q0 (by omega)⟩⟩
theorem m_endsL {σ1 σ0 : mS} (hk : KP 152 σ1 (fun _ _ => True) σ0) {x1 : Int} (h1 : 0 ≤ x1 ∧ x1 ≤ 1) {Z : mY} (hQ : ∀ σ', Agk DS σ1 σ' → Q (some (vI (endR Z x1))) σ') : ∀ (m i : Nat) (σ : mS) (Y1 : mY), (i : Int) + m = Y1 125 32 → Agk DM σ0 σ → MS σ Y1 B → Y1 125 11 + m < 1000000 → planR B m i Y1 = Z → WP X (d + 8) (0, 0) MX11_ends 21 [(0, vP (some 125)), (1, vI x1), (2, vI (i : Int))] [] σ Q := by
  intro m
  induction m with
  | zero =>
    intro i σ Y1 hi hA h h11 hE
    have hs := h.1.1
    have o1 := h.1.one
    have ey := h.ey
    have e32 := ey.c (k := 32) (by decide)
    have hw := h.2.1.pl.1
    simp only [planR] at hE
    subst hE
    have hR := endR_e ey x1
    have hb := bitsF_lt (soF σ.2.1 2) (σ.2.1 125 6).toNat 0 (by omega)
    have hpc := pc_bits (soF σ.2.1 2) (σ.2.1 125 6).toNat (by omega)
    refine C_X11_ends_21 hs ⟨by omega, fun _ => ⟨by omega, fun n0 => m_so hs o1.2.1 (by decide) ⟨_, rfl, hs, c_bitCount (by omega) ⟨_, rfl, hs, m_again hs (Or.inr rfl) (fun σ' hP => ⟨rfl, hP.2.1.1, ?_⟩)⟩⟩, fun n0 => m_thr hs o1.2.1 ⟨_, rfl, hs, m_again hs (Or.inr rfl) (fun σ' hP => ⟨rfl, hP.2.1.1, ?_⟩)⟩⟩, fun hz => absurd hz (by omega)⟩
    all_goals have hQ' := hQ σ' (runBack hk hA hP)
    all_goals rw [← hR] at hQ'
    all_goals unfold endR at hQ'
    · rw [if_neg n0] at hQ'
      rw [hpc]
      exact hQ'
    · rw [if_pos n0] at hQ'
      exact hQ'
  | succ m ih =>
    intro i σ Y1 hi hA h h11 hE
    have hs := h.1.1
    have hw := h.2.1.pl
    have hw2 := hw.2 i (by omega)
    have w0 := h.2.1.1
    have w6 := h.2.1.2.1
    simp only [planR] at hE
    have nx : ∀ σ2, Agk DM σ σ2 → MS σ2 (rowY B Y1 (Y1 146 i) (Y1 147 i)) B → WP X (d + 8) (0, 0) MX11_ends 21 [(0, vP (some 125)), (1, vI x1), (2, vI ((i + 1 : Nat) : Int))] [] σ2 Q := fun σ2 hA1 h1 => by
      refine ih (i + 1) σ2 _ ?_ (DM_tr hA hA1) h1 ?_ hE
      · rw [rowY_o (by decide)]; omega
      · have := rowY_h (B := B) (Y := Y1) (w := Y1 146 i) (n := Y1 147 i)
        omega
    unfold rowY at nx
    have e32 := h.2.2 125 32 (by decide)
    refine C_X11_ends_21 hs ⟨by omega, fun hz => absurd hz (by omega), fun _ => ⟨by omega, by omega, ?_⟩⟩
    rw [show ((i : Int)).toNat = i by omega, h.2.2 146 i (by decide), h.2.2 147 i (by decide), show (i : Int) + 1 = ((i + 1 : Nat) : Int) by omega]
    refine ⟨fun k0 => ⟨fun k2 => ⟨fun k3 => ?_, fun k3 => ?_⟩, fun k2 => ?_⟩, fun k0 => ?_⟩
    · have k1 : Y1 146 i = 1 := by omega
      have w1 := hw2.2.1 k1
      rw [if_neg k0, if_pos k1] at nx
      rw [tdiv10 (by omega), tmod10 (by omega), h.2.2 133 _ (by decide)]
      obtain ⟨q, hq⟩ : ∃ q : Nat, Y1 147 i / 10 = (q : Int) := ⟨(Y1 147 i / 10).toNat, by omega⟩
      obtain ⟨p, hp⟩ : ∃ p : Nat, Y1 147 i % 10 = (p : Int) := ⟨(Y1 147 i % 10).toNat, by omega⟩
      rw [hq, hp, show ((q : Int)).toNat = q by omega] at nx
      rw [hq, hp, show ((q : Int)).toNat = q by omega]
      refine ⟨by have := hs.2.2.1 147 i; rw [h.2.2 147 i (by decide)] at this; omega, by omega, by omega, fun n0 => nx σ (Agk.rf hs) ?_, fun n0 => m_ask1 h (by omega) (by omega) (fun σ2 hA2 h2 => ⟨rfl, h2.1.1, nx σ2 hA2 ?_⟩)⟩
      · unfold askY
        rw [if_neg (fun q => n0 q.1)]
        exact h
      · unfold askY
        rw [if_pos ⟨n0, by omega, by omega⟩, show ((p : Int)).toNat = p by omega]
        exact h2
    · have w3 := hw2.2.2.2 k3
      rw [if_neg k0, if_neg (by omega), if_neg k2] at nx
      have hs2 : Sh (sI σ 133 (Y1 147 i).toNat 0) := sh_I hs (by decide) (hs.k (a := 133) rfl) (Or.inl (by decide))
      have hA2 : Agk DM σ (sI σ 133 (Y1 147 i).toNat 0) := (Agk.rf hs).sI hs2 (Or.inr (by unfold vp; omega))
      refine ⟨by omega, by omega, nx _ hA2 (h.st hA2 (h.2.1.mUp (by omega)) (fun a k ha => ?_) (by rw [mUs, if_neg (by omega)]))⟩
      rw [sI_at, mUs, h.2.2 a k ha]
    · have w2 := hw2.2.2.1 k2
      rw [if_neg k0, if_neg (by omega), if_pos k2] at nx
      have hs2 : Sh (sI σ 129 (Y1 147 i).toNat 0) := sh_I hs (by decide) (hs.k (a := 129) rfl) (Or.inl (by decide))
      have hA2 : Agk DM σ (sI σ 129 (Y1 147 i).toNat 0) := (Agk.rf hs).sI hs2 (Or.inr (by unfold vp; omega))
      refine ⟨by omega, by omega, nx _ hA2 (h.st hA2 (h.2.1.mUp (by omega)) (fun a k ha => ?_) (by rw [mUs, if_neg (by omega)]))⟩
      rw [sI_at, mUs, h.2.2 a k ha]
    · rw [if_pos k0] at nx
      exact m_hour h (by omega) (fun σ2 hA2 h2 => ⟨rfl, h2.1.1, nx σ2 hA2 h2⟩)
theorem m_ends (hM : MB σ B) (h11 : σ.2.1 125 11 ≤ 9999) {x1 : Int} (h1 : -2147483648 ≤ x1 ∧ x1 ≤ 2147483647) (q0 : ¬ (0 ≤ x1 ∧ x1 ≤ 1) → Q (some (vI (-1))) σ)
    (q2 : 0 ≤ x1 ∧ x1 ≤ 1 → ∀ σ', Agk DS σ σ' → Q (some (vI (endR (planR B (σ.2.1 125 32).toNat 0 σ.2.1) x1))) σ') : CALL X (d + 11) (0, 0) MX11_ends [vP (some 125), vI x1] σ Q := by
  have hs := hM.1
  refine C_X11_ends hs (c_within hs h1 (by decide) (by decide) ⟨_, rfl, hs, fun hz => q0 (of_decide_eq_false hz), fun hz => m_keep hs (Or.inr rfl) (fun σ1 hk => ⟨rfl, hk.2.1.1, ?_⟩)⟩)
  have hx := of_decide_eq_true hz
  have hM1 := hk.mb hM
  have e1 := hk.ey
  have e11 := e1.c (k := 11) (by decide)
  have e32 := e1.c (k := 32) (by decide)
  have hw := hM1.2.1.pl.1
  refine m_endsL (d := d + 3) hk hx (Z := planR B (σ1.2.1 125 32).toNat 0 σ1.2.1) (fun σ' hA => ?_) (σ1.2.1 125 32).toNat 0 σ1 _ (by omega) (Agk.rf hk.2.1.1) hM1.ms (by omega) rfl
  rw [endR_e (planR_e _ _ e1), e32]
  exact q2 hx σ' hA
theorem op_ends (hi : Inv σ) {x1 : Int} (h1 : -2147483648 ≤ x1 ∧ x1 ≤ 2147483647) : BothI X (d + 11) MX10_ends MX11_ends [vI x1] σ Inv := by
  have hs := hi.1
  obtain ⟨B, hM, hX⟩ := hi.bB
  have h99 := hi.2.1.2.2
  refine c_ends hX h99 h1 (fun n => ⟨_, rfl, hs, by decide, m_ends hM h99 h1 (fun _ => ⟨rfl, hi⟩) (fun h => absurd h n)⟩) (fun o σ1 hA hW => ⟨_, rfl, hA.1, endR_r hW _, ?_⟩)
  have hM1 := hM.fr hA DS_ok DS_m
  have ey := hA.ey DS_m
  refine m_ends hM1 (by rw [ey.c (by decide)]; exact h99) h1 (fun h => absurd o h) (fun _ σ2 hB => ⟨?_, (hi.ds hA).ds hB⟩)
  rw [endR_e (planR_e _ _ ey), ey.c (k := 32) (by decide)]
end ENDSOP
