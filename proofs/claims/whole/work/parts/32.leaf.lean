/-! contracts of the smallest methods -/
section LEAF
variable {X : mX} {d : Nat} {σ : mS} {Q : Option mV → mS → Prop}
theorem qT {P : Prop} [Decidable P] (hQ : Q (some (vI (bB (decide P)))) σ) (h : P) : Q (some (vI (bB true))) σ := by rw [decide_eq_true h] at hQ; exact hQ
theorem qF {P : Prop} [Decidable P] (hQ : Q (some (vI (bB (decide P)))) σ) (h : ¬ P) : Q (some (vI (bB false))) σ := by rw [decide_eq_false h] at hQ; exact hQ
theorem c_bitCount {n : Nat} (hn : n < 4096) (hQ : Q (some (vI (pc n : Int))) σ) : CALL X d (0, 0) MJ6_bitCount_0f7a4 [vI (n : Int)] σ Q := by
  refine B_J6_bitCount_0f7a4 ?_
  have h := bcF_eq n hn
  rw [← h] at hQ
  exact hQ
theorem c_lowest {n : Nat} (hn : n < 4096) (hQ : Q (some (vI (lob n : Int))) σ) : CALL X d (0, 0) MJ6_lowestOneBit_0f7a4 [vI (n : Int)] σ Q := by
  refine B_J6_lowestOneBit_0f7a4 ?_
  rw [lob_x n hn]
  exact hQ
theorem c_isKind (hs : Sh σ) {x : Int} (hx : -2147483648 ≤ x ∧ x ≤ 2147483647) (hQ : Q (some (vI (bB (decide (0 ≤ x ∧ x ≤ 6))))) σ) : CALL X d (0, 0) MX10_isKind [vI x] σ Q :=
  C_X10_isKind hs ⟨hx, fun h => qF hQ (by omega), fun h => ⟨fun h2 => qF hQ (by omega), fun h2 => qT hQ (by omega)⟩⟩
theorem c_isDigit (hs : Sh σ) {x : Int} (hx : -2147483648 ≤ x ∧ x ≤ 2147483647) (hQ : Q (some (vI (bB (decide (0 ≤ x ∧ x ≤ 9))))) σ) : CALL X d (0, 0) MX10_isDigit [vI x] σ Q :=
  C_X10_isDigit hs ⟨hx, fun h => qF hQ (by omega), fun h => ⟨fun h2 => qF hQ (by omega), fun h2 => qT hQ (by omega)⟩⟩
theorem c_isUpTo99 (hs : Sh σ) {x : Int} (hx : -2147483648 ≤ x ∧ x ≤ 2147483647) (hQ : Q (some (vI (bB (decide (0 ≤ x ∧ x ≤ 99))))) σ) : CALL X d (0, 0) MX10_isUpTo99 [vI x] σ Q :=
  C_X10_isUpTo99 hs ⟨hx, fun h => qF hQ (by omega), fun h => ⟨fun h2 => qF hQ (by omega), fun h2 => qT hQ (by omega)⟩⟩
theorem c_isSet (hs : Sh σ) {x : Int} (hx : -2147483648 ≤ x ∧ x ≤ 2147483647) (hQ : Q (some (vI (bB (decide (0 ≤ x ∧ x ≤ 4095))))) σ) : CALL X d (0, 0) MX10_isSet [vI x] σ Q :=
  C_X10_isSet hs ⟨hx, fun h => qF hQ (by omega), fun h => ⟨fun h2 => qF hQ (by omega), fun h2 => qT hQ (by omega)⟩⟩
theorem c_isHours (hs : Sh σ) {x : Int} (hx : -2147483648 ≤ x ∧ x ≤ 2147483647) (hQ : Q (some (vI (bB (decide (0 ≤ x ∧ x ≤ 60))))) σ) : CALL X d (0, 0) MX10_isHours [vI x] σ Q :=
  C_X10_isHours hs ⟨hx, fun h => qF hQ (by omega), fun h => ⟨fun h2 => qF hQ (by omega), fun h2 => qT hQ (by omega)⟩⟩
theorem c_isPart (hs : Sh σ) {x : Int} (hx : -2147483648 ≤ x ∧ x ≤ 2147483647) (hQ : Q (some (vI (bB (decide (0 ≤ x ∧ x ≤ 1))))) σ) : CALL X d (0, 0) MX10_isPart [vI x] σ Q :=
  C_X10_isPart hs ⟨hx, fun h => qT hQ (by omega), fun h => ⟨fun h2 => qF hQ (by omega), fun h2 => qT hQ (by omega)⟩⟩
theorem c_within (hs : Sh σ) {x lo hi : Int} (hx : -2147483648 ≤ x ∧ x ≤ 2147483647) (hlo : -2147483648 ≤ lo ∧ lo ≤ 2147483647) (hhi : -2147483648 ≤ hi ∧ hi ≤ 2147483647) (hQ : Q (some (vI (bB (decide (lo ≤ x ∧ x ≤ hi))))) σ) : CALL X d (0, 0) MX11_within [vI x, vI lo, vI hi] σ Q :=
  C_X11_within hs ⟨hx, hlo, fun h => qF hQ (by omega), fun h => ⟨hhi, fun h2 => qF hQ (by omega), fun h2 => qT hQ (by omega)⟩⟩
theorem c_isOne (hs : Sh σ) {x : Int} (hx : -2147483648 ≤ x ∧ x ≤ 2147483647) (hg : 0 ≤ σ.2.1 125 0 ∧ σ.2.1 125 0 ≤ 6) (hQ : Q (some (vI (bB (decide (0 ≤ x ∧ x < σ.2.1 125 0))))) σ) : CALL X (d + 1) (0, 0) MX11_isOne [vP (some 125), vI x] σ Q := by
  refine C_X11_isOne hs (c_within hs hx (by omega) (by omega) ⟨_, rfl, hs, ?_⟩)
  rw [show (decide (0 ≤ x ∧ x ≤ σ.2.1 125 0 - 1)) = decide (0 ≤ x ∧ x < σ.2.1 125 0) from decide_eq_decide.mpr (by omega)]
  exact hQ
theorem c_isAsked (hs : Sh σ) {x : Int} (hx : -2147483648 ≤ x ∧ x ≤ 2147483647) (hg : 0 ≤ σ.2.1 125 6 ∧ σ.2.1 125 6 ≤ 6) (hQ : Q (some (vI (bB (decide (0 ≤ x ∧ x < σ.2.1 125 6))))) σ) : CALL X (d + 1) (0, 0) MX11_isAsked [vP (some 125), vI x] σ Q := by
  refine C_X11_isAsked hs (c_within hs hx (by omega) (by omega) ⟨_, rfl, hs, ?_⟩)
  rw [show (decide (0 ≤ x ∧ x ≤ σ.2.1 125 6 - 1)) = decide (0 ≤ x ∧ x < σ.2.1 125 6) from decide_eq_decide.mpr (by omega)]
  exact hQ
theorem c_areMatters (hs : Sh σ) {x : Int} (hx : -2147483648 ≤ x ∧ x ≤ 2147483647) (hQ : Q (some (vI (bB (decide (0 ≤ x ∧ x ≤ 4095))))) σ) : CALL X (d + 1) (0, 0) MX11_areMatters [vI x] σ Q :=
  C_X11_areMatters hs (c_within hs hx (by omega) (by omega) ⟨_, rfl, hs, hQ⟩)
theorem c_isTape (hs : Sh σ) {x : Int} (hx : -2147483648 ≤ x ∧ x ≤ 2147483647) (hQ : Q (some (vI (bB (decide (0 ≤ x ∧ x ≤ 5))))) σ) : CALL X (d + 1) (0, 0) MX11_isTape [vI x] σ Q :=
  C_X11_isTape hs (c_within hs hx (by omega) (by omega) ⟨_, rfl, hs, hQ⟩)
/-- a guard, a question of a yard by its number -/
def gAt (σ : mS) (y : Nat) (x : Int) : Option Nat := if 0 ≤ x ∧ x < σ.2.1 y 5 then some (y + 9 + 3 * x.toNat) else none
def qAt (σ : mS) (y : Nat) (x : Int) : Option Nat := if 0 ≤ x ∧ x < σ.2.1 y 6 then some (y + 11 + 3 * x.toNat) else none
theorem c_guardAt (hs : Sh σ) {y : Nat} (hy : isY y) {x : Int} (hx : -2147483648 ≤ x ∧ x ≤ 2147483647) (hc : σ.2.1 y 5 ≤ 6) (hQ : Q (some (vP (gAt σ y x))) σ) : CALL X d (0, 0) MX9_guardAt [vP (some y), vI x] σ Q := by
  unfold gAt at hQ
  refine C_X9_guardAt hs hy ⟨hx, fun h => ?_, fun h => ⟨fun h2 => ?_, fun h2 => ⟨fun h3 => ⟨by omega, ?_⟩, fun h3 => ?_⟩⟩⟩ <;> split at hQ <;> first | exact hQ | (exfalso; omega)
theorem c_questionAt (hs : Sh σ) {y : Nat} (hy : isY y) {x : Int} (hx : -2147483648 ≤ x ∧ x ≤ 2147483647) (hc : σ.2.1 y 6 ≤ 6) (hQ : Q (some (vP (qAt σ y x))) σ) : CALL X d (0, 0) MX9_questionAt [vP (some y), vI x] σ Q := by
  unfold qAt at hQ
  refine C_X9_questionAt hs hy ⟨hx, fun h => ?_, fun h => ⟨fun h2 => ?_, fun h2 => ⟨fun h3 => ⟨by omega, ?_⟩, fun h3 => ?_⟩⟩⟩ <;> split at hQ <;> first | exact hQ | (exfalso; omega)
def tAt (x : Int) : Option Nat := if 0 ≤ x ∧ x ≤ 5 then some (113 + 2 * x.toNat) else none
end LEAF
