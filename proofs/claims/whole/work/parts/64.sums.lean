/-! goods that are through, fines, what waits: on both sides -/
section SUMS
variable {X : mX} {d : Nat} {σ : mS} {Q : Option mV → mS → Prop} {y : Nat} {Y : mY} {B : List mCl}
def thr (Y : mY) : Nat → Nat → Int
  | 0, _ => 0
  | m + 1, q => (if Y 133 q = 1 then Y 132 q else 0) + thr Y m (q + 1)
def bitsF (f : Nat → Bool) : Nat → Nat → Nat
  | 0, _ => 0
  | m + 1, q => (if f q then 2 ^ q else 0) ||| bitsF f m (q + 1)
def cntF (f : Nat → Bool) : Nat → Nat → Nat
  | 0, _ => 0
  | m + 1, q => (if f q then 1 else 0) + cntF f m (q + 1)
def soF (Y : mY) (s : Int) : Nat → Bool := fun q => decide (Y 133 q = s)
theorem pc_bits (f : Nat → Bool) : ∀ m, m ≤ 6 → pc (bitsF f m 0) = cntF f m 0 := by
  intro m hm
  have : m = 0 ∨ m = 1 ∨ m = 2 ∨ m = 3 ∨ m = 4 ∨ m = 5 ∨ m = 6 := by omega
  rcases this with rfl | rfl | rfl | rfl | rfl | rfl | rfl
  all_goals simp only [bitsF, cntF]
  · decide
  · cases f 0 <;> decide
  · cases f 0 <;> cases f (0 + 1) <;> decide
  · cases f 0 <;> cases f (0 + 1) <;> cases f (0 + 1 + 1) <;> decide
  · cases f 0 <;> cases f (0 + 1) <;> cases f (0 + 1 + 1) <;> cases f (0 + 1 + 1 + 1) <;> decide
  · cases f 0 <;> cases f (0 + 1) <;> cases f (0 + 1 + 1) <;> cases f (0 + 1 + 1 + 1) <;> cases f (0 + 1 + 1 + 1 + 1) <;> decide
  · cases f 0 <;> cases f (0 + 1) <;> cases f (0 + 1 + 1) <;> cases f (0 + 1 + 1 + 1) <;> cases f (0 + 1 + 1 + 1 + 1) <;> cases f (0 + 1 + 1 + 1 + 1 + 1) <;> decide
theorem bitsF_lt (f : Nat → Bool) : ∀ m q, q + m ≤ 6 → bitsF f m q < 64
  | 0, _, _ => by simp only [bitsF]; decide
  | m + 1, q, h => by
    simp only [bitsF]
    have ih := bitsF_lt f m (q + 1) (by omega)
    have h2 : (if f q = true then 2 ^ q else 0) < 64 := by
      split
      · exact Nat.lt_of_lt_of_le (Nat.pow_lt_pow_right (by decide) (show q < 6 by omega)) (by decide)
      · decide
    exact Nat.or_lt_two_pow (n := 6) h2 ih
theorem cntF_le (f : Nat → Bool) : ∀ m q, cntF f m q ≤ m
  | 0, _ => Nat.le_refl _
  | m + 1, q => by
    have := cntF_le f m (q + 1)
    simp only [cntF]
    split <;> omega
theorem thr_r {nb : Int} (h : WFY nb Y) : ∀ m q, q + m ≤ 6 → 0 ≤ thr Y m q ∧ thr Y m q ≤ 99 * m
  | 0, _, _ => by simp [thr]
  | m + 1, q, hq => by
    have := thr_r h m (q + 1) (by omega)
    have := h.q (q := q) (by omega)
    simp only [thr]
    split <;> omega
theorem c_thrL (h : YB σ y Y B) {R : Int} (hQ : Q (some (vI R)) σ) : ∀ (m q : Nat) (s : Int), (q : Int) + m = Y 125 6 → s + thr Y m q = R → WP X (d + 1) (0, 0) MX9_goodsThrough 4 [(0, vP (some y)), (1, vI s), (2, vI (q : Int))] [] σ Q := by
  have hc := h.c
  intro m
  induction m with
  | zero =>
    intro q s hq hR
    simp only [thr, Int.add_zero] at hR
    subst hR
    exact C_X9_goodsThrough_4 h.1 h.2.1 ⟨by omega, fun _ => hQ, fun hz => absurd hz (by omega)⟩
  | succ m ih =>
    intro q s hq hR
    have gq := h.q (q := q) (by omega)
    simp only [thr] at hR
    refine C_X9_goodsThrough_4 h.1 h.2.1 ⟨by omega, fun hz => absurd hz (by omega), fun _ => c_questionY h (by omega) ⟨_, rfl, h.1, fun hz => (by cases hz), fun a ha => ?_⟩⟩
    obtain rfl := Option.some.inj ha
    rw [gq.2.2.1, gq.2.1, show (q : Int) + 1 = ((q + 1 : Nat) : Int) by omega]
    refine ⟨h.isQ (by omega), fun hz => ih (q + 1) _ (by omega) ?_, fun hz => ih (q + 1) _ (by omega) ?_⟩
    · rw [if_neg hz] at hR
      omega
    · rw [if_pos hz] at hR
      omega
theorem c_thr (h : YB σ y Y B) (hQ : Q (some (vI (thr Y (Y 125 6).toNat 0))) σ) : CALL X (d + 1) (0, 0) MX9_goodsThrough [vP (some y)] σ Q :=
  C_X9_goodsThrough h.1 h.2.1 (c_thrL h hQ (Y 125 6).toNat 0 0 (by have := h.c; omega) (Int.zero_add _))
theorem c_finL (h : YB σ y Y B) {R : Int} (hQ : Q (some (vI R)) σ) : ∀ (m q : Nat) (s : Int), (q : Int) + m = Y 125 6 → s + (cntF (soF Y 2) m q : Int) = R → WP X (d + 1) (0, 0) MX9_finedCount 4 [(0, vP (some y)), (1, vI s), (2, vI (q : Int))] [] σ Q := by
  have hc := h.c
  intro m
  induction m with
  | zero =>
    intro q s hq hR
    simp only [cntF] at hR
    have hR : s = R := by omega
    subst hR
    exact C_X9_finedCount_4 h.1 h.2.1 ⟨by omega, fun _ => hQ, fun hz => absurd hz (by omega)⟩
  | succ m ih =>
    intro q s hq hR
    have gq := h.q (q := q) (by omega)
    simp only [cntF, soF, decide_eq_true_eq] at hR
    refine C_X9_finedCount_4 h.1 h.2.1 ⟨by omega, fun hz => absurd hz (by omega), fun _ => c_questionY h (by omega) ⟨_, rfl, h.1, fun hz => (by cases hz), fun a ha => ?_⟩⟩
    obtain rfl := Option.some.inj ha
    rw [gq.2.2.1, show (q : Int) + 1 = ((q + 1 : Nat) : Int) by omega]
    refine ⟨h.isQ (by omega), fun hz => ih (q + 1) _ (by omega) ?_, fun hz => ih (q + 1) _ (by omega) ?_⟩
    · rw [if_neg hz] at hR
      omega
    · rw [if_pos hz] at hR
      omega
theorem c_fin (h : YB σ y Y B) (hQ : Q (some (vI (cntF (soF Y 2) (Y 125 6).toNat 0 : Int))) σ) : CALL X (d + 1) (0, 0) MX9_finedCount [vP (some y)] σ Q :=
  C_X9_finedCount h.1 h.2.1 (c_finL h hQ (Y 125 6).toNat 0 0 (by have := h.c; omega) (by omega))
theorem c_isWait (h : YB σ y Y B) {q : Nat} (hq : (q : Int) < Y 125 6) (hQ : Q (some (vI (bB (soF Y 0 q)))) σ) : CALL X (d + 1) (0, 0) MX9_isWaiting [vP (some y), vI (q : Int)] σ Q := by
  have hc := h.c
  have gq := h.q (q := q) (by omega)
  unfold soF at hQ
  refine C_X9_isWaiting h.1 h.2.1 (c_questionY h hq ⟨_, rfl, h.1, fun hz => (by cases hz), fun a ha => ?_⟩)
  obtain rfl := Option.some.inj ha
  rw [gq.2.2.1]
  exact ⟨h.isQ (by omega), fun hz => qF hQ hz, fun hz => qT hQ hz⟩
theorem c_isWaitN (h : YB σ y Y B) {x : Int} (hx : -2147483648 ≤ x ∧ x ≤ 2147483647) (hq : ¬ (0 ≤ x ∧ x < Y 125 6)) (hQ : Q (some (vI (bB false))) σ) : CALL X (d + 1) (0, 0) MX9_isWaiting [vP (some y), vI x] σ Q :=
  C_X9_isWaiting h.1 h.2.1 (c_questionN h hx hq ⟨_, rfl, h.1, fun _ => hQ, fun a ha => by cases ha⟩)
theorem c_waitL (h : YB σ y Y B) {R : Nat} (hQ : Q (some (vI (R : Int))) σ) : ∀ (m q s : Nat), (q : Int) + m = Y 125 6 → s < 4096 → s ||| bitsF (soF Y 0) m q = R → WP X (d + 2) (0, 0) MX9_waiting 4 [(0, vP (some y)), (1, vI (s : Int)), (2, vI (q : Int))] [] σ Q := by
  have hc := h.c
  intro m
  induction m with
  | zero =>
    intro q s hq hs4 hR
    simp only [bitsF, Nat.or_zero] at hR
    subst hR
    exact C_X9_waiting_4 h.1 h.2.1 ⟨by omega, fun _ => hQ, fun hz => absurd hz (by omega)⟩
  | succ m ih =>
    intro q s hq hs4 hR
    simp only [bitsF] at hR
    have h2q : 2 ^ q < 4096 := Nat.lt_of_lt_of_le (Nat.pow_lt_pow_right (by decide) (show q < 6 by omega)) (by decide)
    refine C_X9_waiting_4 h.1 h.2.1 ⟨by omega, fun hz => absurd hz (by omega), fun _ => c_isWait h (by omega) ⟨_, rfl, h.1, fun hz => ?_, fun hz => ?_⟩⟩
    · rw [hz] at hR
      simp only [Bool.false_eq_true, if_false, Nat.zero_or] at hR
      rw [show (q : Int) + 1 = ((q + 1 : Nat) : Int) by omega, show (0 : Int) = ((0 : Nat) : Int) from rfl, bor_n (by omega) (by omega), Nat.or_zero]
      exact ih (q + 1) s (by omega) hs4 hR
    · rw [hz] at hR
      simp only [if_true] at hR
      rw [show (q : Int) + 1 = ((q + 1 : Nat) : Int) by omega, bshl_1 q (by omega), bor_n (by omega) (by omega)]
      exact ih (q + 1) _ (by omega) (or_lt hs4 h2q) (by rw [Nat.or_assoc]; exact hR)
theorem c_wait (h : YB σ y Y B) (hQ : Q (some (vI (bitsF (soF Y 0) (Y 125 6).toNat 0 : Int))) σ) : CALL X (d + 2) (0, 0) MX9_waiting [vP (some y)] σ Q :=
  C_X9_waiting h.1 h.2.1 (c_waitL h hQ (Y 125 6).toNat 0 0 (by have := h.c; omega) (by decide) (Nat.zero_or _))
theorem m_thrL (hs : Sh σ) (h6 : 0 ≤ σ.2.1 125 6 ∧ σ.2.1 125 6 ≤ 6) {R : Int} (hQ : Q (some (vI R)) σ) : ∀ (m q : Nat) (s : Int), (q : Int) + m = σ.2.1 125 6 → s + thr σ.2.1 m q = R → WP X d (0, 0) MX11_through 4 [(0, vP (some 125)), (1, vI s), (2, vI (q : Int))] [] σ Q := by
  intro m
  induction m with
  | zero =>
    intro q s hq hR
    simp only [thr, Int.add_zero] at hR
    subst hR
    exact C_X11_through_4 hs ⟨by omega, fun _ => hQ, fun hz => absurd hz (by omega)⟩
  | succ m ih =>
    intro q s hq hR
    simp only [thr] at hR
    refine C_X11_through_4 hs ⟨by omega, fun hz => absurd hz (by omega), fun _ => ⟨by omega, by omega, ?_⟩⟩
    rw [show ((q : Int)).toNat = q by omega, show (q : Int) + 1 = ((q + 1 : Nat) : Int) by omega]
    refine ⟨fun hz => ih (q + 1) _ (by omega) ?_, fun hz => ih (q + 1) _ (by omega) ?_⟩
    · rw [if_neg hz] at hR
      omega
    · rw [if_pos hz] at hR
      omega
theorem m_thr (hs : Sh σ) (h6 : 0 ≤ σ.2.1 125 6 ∧ σ.2.1 125 6 ≤ 6) (hQ : Q (some (vI (thr σ.2.1 (σ.2.1 125 6).toNat 0))) σ) : CALL X d (0, 0) MX11_through [vP (some 125)] σ Q :=
  C_X11_through hs (m_thrL hs h6 hQ (σ.2.1 125 6).toNat 0 0 (by omega) (Int.zero_add _))
theorem m_soL (hs : Sh σ) (h6 : 0 ≤ σ.2.1 125 6 ∧ σ.2.1 125 6 ≤ 6) {so : Int} (hso : -2147483648 ≤ so ∧ so ≤ 2147483647) {R : Nat} (hQ : Q (some (vI (R : Int))) σ) : ∀ (m q s : Nat), (q : Int) + m = σ.2.1 125 6 → s < 4096 → s ||| bitsF (soF σ.2.1 so) m q = R → WP X d (0, 0) MX11_areSo 4 [(0, vP (some 125)), (1, vI so), (2, vI (s : Int)), (3, vI (q : Int))] [] σ Q := by
  intro m
  induction m with
  | zero =>
    intro q s hq hs4 hR
    simp only [bitsF, Nat.or_zero] at hR
    subst hR
    exact C_X11_areSo_4 hs ⟨by omega, fun _ => hQ, fun hz => absurd hz (by omega)⟩
  | succ m ih =>
    intro q s hq hs4 hR
    simp only [bitsF] at hR
    have h2q : 2 ^ q < 4096 := Nat.lt_of_lt_of_le (Nat.pow_lt_pow_right (by decide) (show q < 6 by omega)) (by decide)
    refine C_X11_areSo_4 hs ⟨by omega, fun hz => absurd hz (by omega), fun _ => ⟨by omega, by omega, hso, ?_⟩⟩
    rw [show ((q : Int)).toNat = q by omega, show (q : Int) + 1 = ((q + 1 : Nat) : Int) by omega]
    refine ⟨fun hz => ?_, fun hz => ?_⟩
    · rw [show soF σ.2.1 so q = false from decide_eq_false hz] at hR
      simp only [Bool.false_eq_true, if_false, Nat.zero_or] at hR
      exact ih (q + 1) s (by omega) hs4 hR
    · rw [show soF σ.2.1 so q = true from decide_eq_true hz] at hR
      simp only [if_true] at hR
      rw [bshl_1 q (by omega), bor_n (by omega) (by omega)]
      exact ih (q + 1) _ (by omega) (or_lt hs4 h2q) (by rw [Nat.or_assoc]; exact hR)
theorem m_so (hs : Sh σ) (h6 : 0 ≤ σ.2.1 125 6 ∧ σ.2.1 125 6 ≤ 6) {so : Int} (hso : -2147483648 ≤ so ∧ so ≤ 2147483647) (hQ : Q (some (vI (bitsF (soF σ.2.1 so) (σ.2.1 125 6).toNat 0 : Int))) σ) : CALL X d (0, 0) MX11_areSo [vP (some 125), vI so] σ Q :=
  C_X11_areSo hs (m_soL hs h6 hso hQ (σ.2.1 125 6).toNat 0 0 (by omega) (by decide) (Nat.zero_or _))
end SUMS
