/-! LOAD: the table of the given one -/
section LOADS
variable {X : mX} {d : Nat} {σ : mS} {Q : Option mV → mS → Prop} {y : Nat} {Y Z : mY} {B : List mCl}
def maxP (f : Nat → Int) : Nat → Nat → Int → Int
  | 0, _, a => a
  | k + 1, p, a => maxP f k (p + 1) (max a (f p))
theorem maxP_a (f : Nat → Int) : ∀ k p a, a ≤ maxP f k p a
  | 0, _, _ => Int.le_refl _
  | k + 1, p, a => by
    have := maxP_a f k (p + 1) (max a (f p))
    simp only [maxP]
    omega
theorem maxP_f (f : Nat → Int) : ∀ k p a p', p ≤ p' → p' < p + k → f p' ≤ maxP f k p a
  | 0, _, _, _, h1, h2 => absurd h2 (by omega)
  | k + 1, p, a, p', h1, h2 => by
    simp only [maxP]
    by_cases hz : p' = p
    · have := maxP_a f k (p + 1) (max a (f p))
      rw [hz]
      omega
    · exact maxP_f f k (p + 1) _ p' (by omega) (by omega)
theorem maxP_in (f : Nat → Int) : ∀ k p a, maxP f k p a = a ∨ ∃ p', p ≤ p' ∧ p' < p + k ∧ maxP f k p a = f p'
  | 0, _, _ => Or.inl rfl
  | k + 1, p, a => by
    simp only [maxP]
    rcases maxP_in f k (p + 1) (max a (f p)) with h | ⟨p', h1, h2, h3⟩
    · by_cases hz : f p ≤ a
      · exact Or.inl (by rw [h]; omega)
      · exact Or.inr ⟨p, Nat.le_refl _, by omega, by rw [h]; omega⟩
    · exact Or.inr ⟨p', by omega, by omega, h3⟩
/-- goods by a guard p for question q, the guards u being taken; W: what those behind it bring -/
def ldB (B : List mCl) (Y : mY) (q p u : Nat) (W : Nat → Int) : Int := if (nd (ablN B Y q) u).testBit p then Y 132 q + W (u ||| 2 ^ p) else -1
def ldV (B : List mCl) (Y : mY) : Nat → Nat → Nat → Int
  | 0, _, _ => 0
  | m + 1, q, u => maxP (fun p => ldB B Y q p u (ldV B Y m (q + 1))) 6 0 (ldV B Y m (q + 1) u)
theorem ldV_0 : ∀ m q u, 0 ≤ ldV B Y m q u
  | 0, _, _ => Int.le_refl _
  | m + 1, q, u => by
    have h1 := maxP_a (fun p => ldB B Y q p u (ldV B Y m (q + 1))) 6 0 (ldV B Y m (q + 1) u)
    have h2 := ldV_0 m (q + 1) u
    simp only [ldV]
    omega
theorem ldV_r {nb : Int} (h : WFY nb Y) : ∀ m q u, q + m ≤ 6 → ldV B Y m q u ≤ 99 * m
  | 0, _, _, _ => by simp [ldV]
  | m + 1, q, u, hq => by
    have wq := h.q (q := q) (by omega)
    simp only [ldV]
    rcases maxP_in (fun p => ldB B Y q p u (ldV B Y m (q + 1))) 6 0 (ldV B Y m (q + 1) u) with h1 | ⟨p', -, -, h1⟩
    · have := ldV_r h m (q + 1) u (by omega)
      rw [h1]
      omega
    · rw [h1]
      have := ldV_r h m (q + 1) (u ||| 2 ^ p') (by omega)
      show ldB B Y q p' u (ldV B Y m (q + 1)) ≤ _
      unfold ldB
      split <;> omega
theorem ldB_r {nb : Int} (h : WFY nb Y) {m q p u : Nat} (hq : q + m < 6) : -1 ≤ ldB B Y q p u (ldV B Y m (q + 1)) ∧ ldB B Y q p u (ldV B Y m (q + 1)) ≤ 600 := by
  have wq := h.q (q := q) (by omega)
  have h1 := ldV_0 (B := B) (Y := Y) m (q + 1) (u ||| 2 ^ p)
  have h2 := ldV_r (B := B) h m (q + 1) (u ||| 2 ^ p) (by omega)
  unfold ldB
  split <;> omega
/-- rows of the table from q0 on -/
def TbF (B : List mCl) (Y : mY) (N q0 : Nat) (σ : mS) : Prop := ∀ q u, q0 ≤ q → q ≤ N → u < 64 → σ.2.1 104 (q * 64 + u) = ldV B Y (N - q) q u
def AbF (B : List mCl) (Y : mY) (σ : mS) : Prop := ∀ q, q < 6 → σ.2.1 103 q = (ablN B Y q : Int)
theorem c_mostFrom (hs : Sh σ) {q u : Nat} (hq : q ≤ 6) (hu : u < 64) (hQ : Q (some (vI (σ.2.1 104 (q * 64 + u)))) σ) : CALL X d (0, 0) MX2_mostFrom [vP (some 82), vI (q : Int), vI (u : Int)] σ Q := by
  refine C_X2_mostFrom hs ⟨by omega, fun hz => absurd hz (by omega), fun _ => ⟨fun _ => ⟨by omega, ?_⟩, fun hz => absurd hz (by omega)⟩⟩
  rw [show ((q : Int) * 64 + (u : Int)).toNat = q * 64 + u by omega]
  exact hQ
theorem p_lt {p : Nat} (hp : p < 6) : 2 ^ p < 64 := Nat.lt_of_lt_of_le (Nat.pow_lt_pow_right (by decide) hp) (by decide)
theorem or_64 {a b : Nat} (ha : a < 64) (hb : b < 64) : a ||| b < 64 := Nat.or_lt_two_pow (n := 6) ha hb
theorem and_2p (n p : Nat) : n &&& 2 ^ p = 0 ↔ n.testBit p = false := by
  constructor
  · intro h
    have := congrArg (fun k => k.testBit p) h
    simp only [Nat.testBit_and, Nat.testBit_two_pow, Nat.zero_testBit, decide_true, Bool.and_true] at this
    exact this
  · intro h
    apply Nat.eq_of_testBit_eq
    intro i
    rw [Nat.testBit_and, Nat.testBit_two_pow, Nat.zero_testBit]
    by_cases hz : p = i
    · rw [← hz, h]; rfl
    · rw [decide_eq_false hz, Bool.and_false]
theorem c_mostBy (h : YB σ y Y B) (hab : AbF B Y σ) {N : Nat} (hN : Y 125 6 = (N : Int)) {q p u : Nat} (hq : q < N) (hp : p < 6) (hu : u < 64) (hT : TbF B Y N (q + 1) σ) (hQ : Q (some (vI (ldB B Y q p u (ldV B Y (N - (q + 1)) (q + 1))))) σ) : CALL X (d + 1) (0, 0) MX2_mostBy [vP (some 82), vP (some y), vI (q : Int), vI (p : Int), vI (u : Int)] σ Q := by
  have hs := h.1
  have hc := h.c
  have hq6 : q < 6 := by omega
  have ha := ablN_lt (B := B) h.2.2.2.1 q
  have h2p := p_lt hp
  refine C_X2_mostBy hs h.2.1 (c_questionY h (by omega) ⟨_, rfl, hs, fun hz => (by cases hz), fun a ha2 => ?_⟩)
  obtain rfl := Option.some.inj ha2
  rw [show ((q : Int)).toNat = q by omega, hab q hq6, band_nd (by omega), bshl_1 p (by omega), band_n (by have := nd_lt (m := ablN B Y q) (k := u) (by omega); omega), bor_n (by omega) (by omega), (h.q hq6).2.1, show (q : Int) + 1 = ((q + 1 : Nat) : Int) by omega]
  have hiff := and_2p (nd (ablN B Y q) u) p
  unfold ldB at hQ
  refine ⟨h.isQ hq6, by omega, fun hz => absurd hz (by omega), fun _ => ⟨by omega, by omega, fun hz => c_mostFrom hs (by omega) (or_64 hu h2p) ⟨_, rfl, hs, ?_⟩, fun hz => ?_⟩⟩
  · rw [hT (q + 1) (u ||| 2 ^ p) (Nat.le_refl _) (by omega) (or_64 hu h2p)]
    cases hb : (nd (ablN B Y q) u).testBit p with
    | false => exact absurd (by rw [hiff.mpr hb]; rfl) hz
    | true =>
      rw [hb, if_pos rfl] at hQ
      exact hQ
  · rw [hiff.mp (by omega), if_neg (by decide)] at hQ
    exact hQ
theorem YB.fF2 {σ' : mS} (h : YB σ y Y B) (ha : Agk (fun a _ => a = 104) σ σ') : YB σ' y Y B := h.fF (ha.mono (fun a k q => Or.inr (Or.inr (by omega))))
theorem c_most45 (h : YB σ y Y B) (hab : AbF B Y σ) {N : Nat} (hN : Y 125 6 = (N : Int)) {q u : Nat} (hq : q < N) (hu : u < 64) (hT : TbF B Y N (q + 1) σ) {R : Int} (hR0 : -2147483648 ≤ R ∧ R ≤ 2147483647) (hQ : WP X (d + 2) (0, 0) MX2_findMost 26 [(0, vP (some 82)), (1, vP (some y)), (2, vI (q : Int)), (3, vI ((u : Int) + 1))] [] (sI σ 104 (q * 64 + u) R) Q) : ∀ (m p : Nat) (a : Int), p + m = 6 → -1 ≤ a ∧ a ≤ 1000 → maxP (fun p => ldB B Y q p u (ldV B Y (N - (q + 1)) (q + 1))) m p a = R → WP X (d + 2) (0, 0) MX2_findMost 45 [(0, vP (some 82)), (1, vP (some y)), (2, vI (q : Int)), (3, vI (u : Int)), (4, vI a), (5, vI (p : Int))] [] σ Q := by
  have hs := h.1
  have hc := h.c
  intro m
  induction m with
  | zero =>
    intro p a hp ha hR
    simp only [maxP] at hR
    subst hR
    refine C_X2_findMost_45 hs h.2.1 ⟨by omega, fun _ => ⟨by omega, by omega, by omega, ?_⟩, fun hz => absurd hz (by omega)⟩
    rw [show ((q : Int) * 64 + (u : Int)).toNat = q * 64 + u by omega]
    exact hQ
  | succ m ih =>
    intro p a hp ha hR
    simp only [maxP] at hR
    have hbr := ldB_r (B := B) (m := N - (q + 1)) (q := q) (p := p) (u := u) h.2.2.2.1 (by omega)
    refine C_X2_findMost_45 hs h.2.1 ⟨by omega, fun hz => absurd hz (by omega), fun _ => c_mostBy (d := d) h hab hN hq (by omega) hu hT ⟨_, rfl, hs, by omega, by omega, ?_⟩⟩
    rw [show (p : Int) + 1 = ((p + 1 : Nat) : Int) by omega]
    exact ih (p + 1) _ (by omega) (by omega) hR
theorem c_most26 {σ0 : mS} {N : Nat} (hN : Y 125 6 = (N : Int)) {q : Nat} (hq : q < N) (hQ : ∀ σ', Agk DFn σ0 σ' → YB σ' y Y B → AbF B Y σ' → TbF B Y N q σ' → WP X (d + 2) (0, 0) MX2_findMost 20 [(0, vP (some 82)), (1, vP (some y)), (2, vI ((q : Int) + (-1)))] [] σ' Q) : ∀ (m u : Nat) (σ : mS), u + m = 64 → Agk DFn σ0 σ → YB σ y Y B → AbF B Y σ → TbF B Y N (q + 1) σ → (∀ v, v < u → σ.2.1 104 (q * 64 + v) = ldV B Y (N - q) q v) → WP X (d + 2) (0, 0) MX2_findMost 26 [(0, vP (some 82)), (1, vP (some y)), (2, vI (q : Int)), (3, vI (u : Int))] [] σ Q := by
  intro m
  induction m with
  | zero =>
    intro u σ hu hA h hab hT hj
    refine C_X2_findMost_26 h.1 h.2.1 ⟨by omega, fun _ => hQ σ hA h hab (fun q' v h1 h2 h3 => ?_), fun hz => absurd hz (by omega)⟩
    by_cases hz : q' = q
    · rw [hz]; exact hj v (by omega)
    · exact hT q' v (by omega) h2 h3
  | succ m ih =>
    intro u σ hu hA h hab hT hj
    have hs := h.1
    have hc := h.c
    have hv0 := ldV_0 (B := B) (Y := Y) (N - (q + 1)) (q + 1) u
    have hvr := ldV_r (B := B) h.2.2.2.1 (N - (q + 1)) (q + 1) u (by omega)
    have hw0 := ldV_0 (B := B) (Y := Y) (N - q) q u
    have hwr := ldV_r (B := B) h.2.2.2.1 (N - q) q u (by omega)
    refine C_X2_findMost_26 hs h.2.1 ⟨by omega, fun hz => absurd hz (by omega), fun _ => ?_⟩
    rw [show (q : Int) + 1 = ((q + 1 : Nat) : Int) by omega]
    refine c_mostFrom hs (by omega) (by omega) ⟨_, rfl, hs, ?_⟩
    rw [hT (q + 1) u (Nat.le_refl _) (by omega) (by omega)]
    have hs2 : Sh (sI σ 104 (q * 64 + u) (ldV B Y (N - q) q u)) := sh_I hs (by omega) (hs.k (a := 104) rfl) (Or.inl (by decide))
    have hA2 : Agk DFn σ (sI σ 104 (q * 64 + u) (ldV B Y (N - q) q u)) := (Agk.rf hs).sI hs2 (Or.inr (Or.inr ⟨by decide, by decide⟩))
    refine c_most45 (d := d) h hab hN hq (by omega) hT (R := ldV B Y (N - q) q u) (by omega) ?_ 6 0 _ rfl (by omega) ?_
    · rw [show (u : Int) + 1 = ((u + 1 : Nat) : Int) by omega]
      refine ih (u + 1) _ (by omega) (DFn_tr hA hA2) (h.fF hA2) (fun j hj2 => ?_) (fun q' v h1 h2 h3 => ?_) (fun v hv => ?_)
      · rw [sI_at, if_neg (by omega)]
        exact hab j hj2
      · rw [sI_at, if_neg (by omega)]
        exact hT q' v h1 h2 h3
      · rw [sI_at]
        by_cases hz : v = u
        · rw [if_pos ⟨rfl, by rw [hz]⟩, hz]
        · rw [if_neg (by omega)]
          exact hj v (by omega)
    · rw [show N - q = (N - (q + 1)) + 1 by omega]
      rfl
theorem c_most20 {σ0 : mS} {N : Nat} (hN : Y 125 6 = (N : Int)) (hQ : ∀ σ', Agk DFn σ0 σ' → YB σ' y Y B → AbF B Y σ' → TbF B Y N 0 σ' → Q none σ') : ∀ (q : Nat) (σ : mS), q ≤ N → Agk DFn σ0 σ → YB σ y Y B → AbF B Y σ → TbF B Y N q σ → WP X (d + 2) (0, 0) MX2_findMost 20 [(0, vP (some 82)), (1, vP (some y)), (2, vI ((q : Int) - 1))] [] σ Q := by
  intro q
  induction q with
  | zero =>
    intro σ hq hA h hab hT
    exact C_X2_findMost_20 h.1 h.2.1 ⟨by omega, fun _ => hQ σ hA h hab hT, fun hz => absurd hz (by omega)⟩
  | succ q ih =>
    intro σ hq hA h hab hT
    have hc := h.c
    refine C_X2_findMost_20 h.1 h.2.1 ⟨by omega, fun hz => absurd hz (by omega), fun _ => ?_⟩
    rw [show ((q + 1 : Nat) : Int) - 1 = (q : Int) by omega]
    refine c_most26 (σ0 := σ) hN (by omega) (fun σ1 hA1 h1 hab1 hT1 => ?_) 64 0 σ rfl (Agk.rf h.1) h hab hT (fun v hv => absurd hv (by omega))
    rw [show (q : Int) + (-1) = (q : Int) - 1 by omega]
    exact ih σ1 (by omega) (DFn_tr hA hA1) h1 hab1 hT1
theorem c_findMost (h : YB σ y Y B) {N : Nat} (hN : Y 125 6 = (N : Int)) (hQ : ∀ σ', Agk DFn σ σ' → YB σ' y Y B → AbF B Y σ' → TbF B Y N 0 σ' → Q none σ') : CALL X (d + 8) (0, 0) MX2_findMost [vP (some 82), vP (some y)] σ Q := by
  have hc := h.c
  refine C_X2_findMost h.1 h.2.1 (c_able h (fun σ1 hA hab => ⟨rfl, hA.1, c_fillI hA.1 (by decide) (n := 448) rfl (by decide) (fun σ2 hB hj => ⟨rfl, hB.1, ?_⟩)⟩))
  have hB2 : Agk DFn σ1 σ2 := hB.mono (fun a k q => Or.inr (Or.inr (by omega)))
  have h2 := (h.fF hA).fF hB2
  rw [h2.c.1.2.1, hN]
  refine c_most20 (d := d + 6) (σ0 := σ) hN hQ N σ2 (Nat.le_refl _) (DFn_tr hA hB2) h2 (fun q hq => ?_) (fun q u h1 h3 h4 => ?_)
  · rw [hB.2.2 103 q (by omega)]
    exact hab q hq
  · obtain rfl : q = N := by omega
    rw [hj _ (by omega), Nat.sub_self]
    rfl
def fbP (f : Nat → Int) (v : Int) : Nat → Nat → Int
  | 0, _ => -5
  | k + 1, p => if f p = v then (p : Int) else fbP f v k (p + 1)
theorem fbP_spec (f : Nat → Int) (v : Int) : ∀ k p, (fbP f v k p = -5 ∧ ∀ j, p ≤ j → j < p + k → f j ≠ v) ∨ ∃ j, p ≤ j ∧ j < p + k ∧ fbP f v k p = (j : Int) ∧ f j = v ∧ ∀ i, p ≤ i → i < j → f i ≠ v
  | 0, p => Or.inl ⟨rfl, fun j h1 h2 => absurd h2 (by omega)⟩
  | k + 1, p => by
    simp only [fbP]
    by_cases hz : f p = v
    · rw [if_pos hz]
      exact Or.inr ⟨p, Nat.le_refl _, by omega, rfl, hz, fun i h1 h2 => absurd h2 (by omega)⟩
    · rw [if_neg hz]
      rcases fbP_spec f v k (p + 1) with ⟨h1, h2⟩ | ⟨j, h1, h2, h3, h4, h5⟩
      · refine Or.inl ⟨h1, fun j k1 k2 => ?_⟩
        by_cases hj : j = p
        · rw [hj]; exact hz
        · exact h2 j (by omega) (by omega)
      · refine Or.inr ⟨j, by omega, by omega, h3, h4, fun i k1 k2 => ?_⟩
        by_cases hi : i = p
        · rw [hi]; exact hz
        · exact h5 i (by omega) k2
/-- the guard of question q in the first best row, m questions being left -/
def ldP (B : List mCl) (Y : mY) (m q u : Nat) : Int := fbP (fun p => ldB B Y q p u (ldV B Y (m - 1) (q + 1))) (ldV B Y m q u) 6 0
def ldU (u : Nat) (b : Int) : Nat := if 0 ≤ b then u ||| 2 ^ b.toNat else u
/-- the guard of the j-th question from q on -/
def ldA (B : List mCl) (Y : mY) : Nat → Nat → Nat → Nat → Int
  | 0, m, q, u => ldP B Y m q u
  | j + 1, m, q, u => ldA B Y j (m - 1) (q + 1) (ldU u (ldP B Y m q u))
theorem ldP_r (m q u : Nat) : -5 ≤ ldP B Y m q u ∧ ldP B Y m q u < 6 := by
  unfold ldP
  rcases fbP_spec (fun p => ldB B Y q p u (ldV B Y (m - 1) (q + 1))) (ldV B Y m q u) 6 0 with ⟨h1, -⟩ | ⟨j, -, h2, h3, -⟩
  · rw [h1]; decide
  · rw [h3]; omega
theorem ldU_lt {u : Nat} {b : Int} (hu : u < 64) (hb : b < 6) : ldU u b < 64 := by
  unfold ldU
  split
  · exact or_64 hu (p_lt (by omega))
  · exact hu
theorem ldA_r : ∀ j m q u, -5 ≤ ldA B Y j m q u ∧ ldA B Y j m q u < 6
  | 0, m, q, u => ldP_r m q u
  | j + 1, m, q, u => ldA_r j (m - 1) (q + 1) _
theorem c_firstBL (h : YB σ y Y B) (hab : AbF B Y σ) {N : Nat} (hN : Y 125 6 = (N : Int)) (hT : TbF B Y N 0 σ) {q u : Nat} (hq : q < N) (hu : u < 64) {R : Int} (hQ : Q (some (vI R)) σ) : ∀ (m p : Nat), p + m = 6 → fbP (fun p => ldB B Y q p u (ldV B Y (N - (q + 1)) (q + 1))) (ldV B Y (N - q) q u) m p = R → WP X (d + 2) (0, 0) MX2_firstBest 3 [(0, vP (some 82)), (1, vP (some y)), (2, vI (q : Int)), (3, vI (u : Int)), (4, vI (p : Int))] [] σ Q := by
  have hs := h.1
  have hc := h.c
  have hw0 := ldV_0 (B := B) (Y := Y) (N - q) q u
  have hwr := ldV_r (B := B) h.2.2.2.1 (N - q) q u (by omega)
  intro m
  induction m with
  | zero =>
    intro p hp hR
    simp only [fbP] at hR
    subst hR
    exact C_X2_firstBest_3 hs h.2.1 ⟨by omega, fun _ => hQ, fun hz => absurd hz (by omega)⟩
  | succ m ih =>
    intro p hp hR
    simp only [fbP] at hR
    have hbr := ldB_r (B := B) (m := N - (q + 1)) (q := q) (p := p) (u := u) h.2.2.2.1 (by omega)
    refine C_X2_firstBest_3 hs h.2.1 ⟨by omega, fun hz => absurd hz (by omega), fun _ => c_mostBy (d := d) h hab hN hq (by omega) hu (fun q' v h1 h2 h3 => hT q' v (by omega) h2 h3) ⟨_, rfl, hs, c_mostFrom hs (by omega) hu ⟨_, rfl, hs, ?_⟩⟩⟩
    rw [hT q u (by omega) (by omega) hu]
    refine ⟨by omega, by omega, fun hz => ?_, fun hz => ?_⟩
    · rw [if_neg hz] at hR
      rw [show (p : Int) + 1 = ((p + 1 : Nat) : Int) by omega]
      exact ih (p + 1) (by omega) hR
    · rw [if_pos hz] at hR
      rw [hR]
      exact hQ
theorem c_loadGL (h : YB σ y Y B) (hab : AbF B Y σ) {N : Nat} (hN : Y 125 6 = (N : Int)) (hT : TbF B Y N 0 σ) {t : Nat} (ht : t < N) {R : Int} (hQ : Q (some (vI R)) σ) : ∀ (j q u : Nat) (b : Int), q + j = t → u < 64 → ldA B Y j (N - q) q u = R → WP X (d + 3) (0, 0) MX2_loadGuard 14 [(0, vP (some 82)), (1, vP (some y)), (2, vI (t : Int)), (3, vI (u : Int)), (4, vI b), (5, vI (q : Int))] [] σ Q := by
  have hs := h.1
  have hc := h.c
  have fin : ∀ (u : Nat), WP X (d + 3) (0, 0) MX2_loadGuard 14 [(0, vP (some 82)), (1, vP (some y)), (2, vI (t : Int)), (3, vI (u : Int)), (4, vI R), (5, vI ((t + 1 : Nat) : Int))] [] σ Q := fun u =>
    C_X2_loadGuard_14 hs h.2.1 ⟨by omega, by omega, fun _ => hQ, fun hz => absurd hz (by omega)⟩
  have step : ∀ (q u : Nat) (b : Int), q ≤ t → u < 64 → (∀ u' : Nat, u' = ldU u (ldP B Y (N - q) q u) → WP X (d + 3) (0, 0) MX2_loadGuard 14 [(0, vP (some 82)), (1, vP (some y)), (2, vI (t : Int)), (3, vI (u' : Int)), (4, vI (ldP B Y (N - q) q u)), (5, vI ((q + 1 : Nat) : Int))] [] σ Q) → WP X (d + 3) (0, 0) MX2_loadGuard 14 [(0, vP (some 82)), (1, vP (some y)), (2, vI (t : Int)), (3, vI (u : Int)), (4, vI b), (5, vI (q : Int))] [] σ Q := fun q u b hq hu k => by
    have hpr := ldP_r (B := B) (Y := Y) (N - q) q u
    refine C_X2_loadGuard_14 hs h.2.1 ⟨by omega, by omega, fun hz => absurd hz (by omega), fun _ => ⟨fun hz => absurd hz (by omega), fun _ => C_X2_firstBest hs h.2.1 (c_firstBL (d := d) h hab hN hT (q := q) (u := u) (by omega) hu (R := ldP B Y (N - q) q u) ⟨_, rfl, hs, by omega, fun hz => ?_, fun hz => ?_⟩ 6 0 rfl ?_)⟩⟩
    · unfold ldP
      rw [show N - q - 1 = N - (q + 1) by omega]
    · obtain ⟨p, hp⟩ : ∃ p : Nat, ldP B Y (N - q) q u = (p : Int) := ⟨(ldP B Y (N - q) q u).toNat, by omega⟩
      have h2p := p_lt (p := p) (by omega)
      have := k (u ||| 2 ^ p) (by unfold ldU; rw [hp, if_pos (by omega), show ((p : Int)).toNat = p by omega])
      rw [hp] at this
      rw [hp, bshl_1 p (by omega), bor_n (by omega) (by omega), show (q : Int) + 1 = ((q + 1 : Nat) : Int) by omega]
      exact this
    · have := k u (by unfold ldU; rw [if_neg hz])
      rw [show (0 : Int) = ((0 : Nat) : Int) from rfl, bor_n (by omega) (by omega), Nat.or_zero, show (q : Int) + 1 = ((q + 1 : Nat) : Int) by omega]
      exact this
  intro j
  induction j with
  | zero =>
    intro q u b hq hu hR
    obtain rfl : q = t := by omega
    simp only [ldA] at hR
    refine step q u b (Nat.le_refl _) hu (fun u' _ => ?_)
    rw [hR]
    exact fin u'
  | succ j ih =>
    intro q u b hq hu hR
    simp only [ldA] at hR
    have hpr := ldP_r (B := B) (Y := Y) (N - q) q u
    refine step q u b (by omega) hu (fun u' hu' => ?_)
    refine ih (q + 1) u' _ (by omega) (by rw [hu']; exact ldU_lt hu (by omega)) ?_
    rw [hu', ← hR, show N - (q + 1) = N - q - 1 by omega]
theorem c_loadGoods (h : YB σ y Y B) {N : Nat} (hN : Y 125 6 = (N : Int)) (hQ : ∀ σ', Agk DFn σ σ' → Q (some (vI (ldV B Y N 0 0))) σ') : CALL X (d + 9) (0, 0) MX2_loadGoods [vP (some 82), vP (some y)] σ Q := by
  refine C_X2_loadGoods h.1 h.2.1 (c_findMost h hN (fun σ1 hA h1 hab hT => ⟨rfl, hA.1, c_mostFrom (q := 0) (u := 0) hA.1 (by decide) (by decide) ⟨_, rfl, hA.1, ?_⟩⟩))
  rw [hT 0 0 (Nat.le_refl _) (Nat.zero_le _) (by decide)]
  exact hQ σ1 hA
theorem c_loadGuard (h : YB σ y Y B) {N : Nat} (hN : Y 125 6 = (N : Int)) {t : Nat} (ht : t < N) (hQ : ∀ σ', Agk DFn σ σ' → Q (some (vI (ldA B Y t N 0 0))) σ') : CALL X (d + 9) (0, 0) MX2_loadGuard [vP (some 82), vP (some y), vI (t : Int)] σ Q :=
  C_X2_loadGuard h.1 h.2.1 (c_findMost h hN (fun σ1 hA h1 hab hT => ⟨rfl, hA.1, c_loadGL (d := d + 6) h1 hab hN hT ht (hQ σ1 hA) t 0 0 (-5) (Nat.zero_add _) (by decide) rfl⟩))
end LOADS
