/-! TAPES: tape, item, read, shift -/
section TAPE
variable {X : mX} {d : Nat} {σ : mS} {Q : Option mV → mS → Prop}
theorem c_tapeAt (hs : Sh σ) {x : Int} (hx : -2147483648 ≤ x ∧ x ≤ 2147483647) (hQ : Q (some (vP (tAt x))) σ) : CALL X d (0, 0) MX10_tapeAt [vP (some 0), vI x] σ Q := by
  unfold tAt at hQ
  refine C_X10_tapeAt hs ⟨hx, fun h => ?_, fun h => ⟨fun h3 => ⟨by omega, ?_⟩, fun h3 => ?_⟩⟩ <;> split at hQ <;> first | exact hQ | (exfalso; omega)
theorem tAt_some {x : Int} {a : Nat} (h : tAt x = some a) : isT a ∧ (0 ≤ x ∧ x ≤ 5) ∧ a = 113 + 2 * x.toNat := by
  unfold tAt at h
  split at h
  · cases h
    exact ⟨isT_of (by omega) (by omega), by omega, rfl⟩
  · cases h
theorem tAt_none {x : Int} (h : tAt x = none) : ¬ (0 ≤ x ∧ x ≤ 5) := by
  unfold tAt at h
  split at h
  · cases h
  · assumption
theorem c_holdsT (hs : Sh σ) {a : Nat} (ha : isT a) (hQ : Q (some (vI (bB (decide (0 ≤ σ.2.1 a 1))))) σ) : CALL X d (0, 0) MX8_holds [vP (some a)] σ Q :=
  C_X8_holds hs ha ⟨fun h => qF hQ (by omega), fun h => qT hQ (by omega)⟩
theorem c_hasPlace (hs : Sh σ) {a : Nat} (ha : isT a) {i : Int} (hi : -2147483648 ≤ i ∧ i ≤ 2147483647) (hQ : Q (some (vI (bB (decide (0 ≤ i ∧ i < σ.2.1 a 2))))) σ) : CALL X d (0, 0) MX8_hasPlace [vP (some a), vI i] σ Q :=
  C_X8_hasPlace hs ha ⟨hi, fun h => qF hQ (by omega), fun h => ⟨fun h => qF hQ (by omega), fun h => qT hQ (by omega)⟩⟩
theorem c_hasRun (hs : Sh σ) {a : Nat} (ha : isT a) {i n : Int} (hi : -2147483648 ≤ i ∧ i ≤ 2147483647) (hn : -2147483648 ≤ n ∧ n ≤ 2147483647) (hz : 0 ≤ σ.2.1 a 2 ∧ σ.2.1 a 2 ≤ 60) (hQ : Q (some (vI (bB (decide (0 ≤ i ∧ 0 ≤ n ∧ i + n ≤ σ.2.1 a 2))))) σ) : CALL X d (0, 0) MX8_hasRun [vP (some a), vI i, vI n] σ Q :=
  C_X8_hasRun hs ha ⟨hi, fun h => qF hQ (by omega), fun h => ⟨hn, fun h => qF hQ (by omega), fun h => ⟨fun h => qF hQ (by omega), fun h => ⟨by omega, fun h => qF hQ (by omega), fun h => qT hQ (by omega)⟩⟩⟩⟩
theorem c_get (hs : Sh σ) {a : Nat} (ha : isT a) {i : Int} (hi : 0 ≤ i ∧ i < σ.2.1 a 2) (hz : σ.2.1 a 2 ≤ 60) (hQ : Q (some (vL (σ.2.2.1 (a + 1) i.toNat))) σ) : CALL X (d + 1) (0, 0) MX8_get [vP (some a), vI i] σ Q := by
  refine C_X8_get hs ha (c_hasPlace hs ha (by omega) ⟨_, rfl, hs, fun h => ?_, fun h => ⟨by omega, by omega, hQ⟩⟩)
  rw [decide_eq_false_iff_not] at h
  exact absurd hi h
/-- what an item becomes -/
def cutL (s x : Int) : Int := if s = 0 then bi8 (wI x) else if s = 1 then bi16 (wI x) else if s = 2 then wI x else if s = 3 then x else if x = 0 then 0 else 1
theorem jcmp_0 {x : Int} : jcmp x 0 = 0 ↔ x = 0 := by
  unfold jcmp
  split
  · constructor <;> intro h <;> omega
  · split
    · constructor <;> intro h <;> first | assumption | rfl
    · constructor <;> intro h <;> omega
theorem cutL_r (s : Int) {x : Int} (hx : -9223372036854775808 ≤ x ∧ x ≤ 9223372036854775807) : -9223372036854775808 ≤ cutL s x ∧ cutL s x ≤ 9223372036854775807 := by
  unfold cutL
  have h1 := bi8_r (wI x)
  have h2 := bi16_r (wI x)
  have h3 := wI_r x
  repeat' split
  all_goals omega
theorem c_cut (hs : Sh σ) {a : Nat} (ha : isT a) {x : Int} (hx : -9223372036854775808 ≤ x ∧ x ≤ 9223372036854775807) (hQ : Q (some (vL (cutL (σ.2.1 a 1) x))) σ) : CALL X d (0, 0) MX8_cut [vP (some a), vL x] σ Q := by
  unfold cutL at hQ
  refine C_X8_cut hs ha ⟨fun h => ?_, fun h => ?_, fun h => ?_, fun h => ?_, fun h => ⟨hx, fun h2 => ?_, fun h2 => ?_⟩⟩
  · rw [if_pos h] at hQ; exact hQ
  · rw [if_neg (by omega), if_pos h] at hQ; exact hQ
  · rw [if_neg (by omega), if_neg (by omega), if_pos h] at hQ; exact hQ
  · rw [if_neg (by omega), if_neg (by omega), if_neg (by omega), if_pos h] at hQ; exact hQ
  · rw [if_neg (by omega), if_neg (by omega), if_neg (by omega), if_neg (by omega), if_pos (jcmp_0.mp h2)] at hQ; exact hQ
  · rw [if_neg (by omega), if_neg (by omega), if_neg (by omega), if_neg (by omega), if_neg (fun h => h2 (jcmp_0.mpr h))] at hQ; exact hQ
theorem c_kept (hs : Sh σ) {s x : Int} (hr : -2147483648 ≤ s ∧ s ≤ 2147483647) (hx : -9223372036854775808 ≤ x ∧ x ≤ 9223372036854775807) (hQ : Q (some (vL (cutL s x))) σ) : CALL X d (0, 0) MX11_kept [vI s, vL x] σ Q := by
  unfold cutL at hQ
  refine C_X11_kept hs ⟨hr, fun h => ?_, fun h => ?_, fun h => ?_, fun h => ?_, fun h => ⟨hx, fun h2 => ?_, fun h2 => ?_⟩⟩
  · rw [if_pos h] at hQ; exact hQ
  · rw [if_neg (by omega), if_pos h] at hQ; exact hQ
  · rw [if_neg (by omega), if_neg (by omega), if_pos h] at hQ; exact hQ
  · rw [if_neg (by omega), if_neg (by omega), if_neg (by omega), if_pos h] at hQ; exact hQ
  · rw [if_neg (by omega), if_neg (by omega), if_neg (by omega), if_neg (by omega), if_pos (jcmp_0.mp h2)] at hQ; exact hQ
  · rw [if_neg (by omega), if_neg (by omega), if_neg (by omega), if_neg (by omega), if_neg (fun h => h2 (jcmp_0.mpr h))] at hQ; exact hQ
theorem c_put (hs : Sh σ) {a : Nat} (ha : isT a) {i x : Int} (hi : 0 ≤ i ∧ i < σ.2.1 a 2) (hz : σ.2.1 a 2 ≤ 60) (hx : -9223372036854775808 ≤ x ∧ x ≤ 9223372036854775807) (hQ : Q none (sL σ (a + 1) i.toNat (cutL (σ.2.1 a 1) x))) : CALL X (d + 1) (0, 0) MX8_put [vP (some a), vI i, vL x] σ Q := by
  refine C_X8_put hs ha (c_hasPlace hs ha (by omega) ⟨_, rfl, hs, fun h => ?_, fun h => c_cut hs ha hx ⟨_, rfl, hs, by omega, by omega, cutL_r _ hx, hQ⟩⟩)
  rw [decide_eq_false_iff_not] at h
  exact absurd hi h
/-- Arrays.fill over a row of longs with 0 -/
theorem c_fillL (hs : Sh σ) {a n : Nat} (hk : σ.1[a]? = some (53, n)) (hn : n ≤ 1000) (hQ : ∀ σ', Ag (fun q => q = a) σ σ' → σ'.2.1 = σ.2.1 → (∀ i, i < n → σ'.2.2.1 a i = 0) → Q none σ') : CALL X d (0, 0) MJ7_fill_d0a16 [vP (some a), vL 0] σ Q := by
  refine B_J7_fill_d0a16 ⟨n, hk, ?_⟩
  have key : ∀ (m i : Nat) (σ1 : mS), i + m = n → Ag (fun q => q = a) σ σ1 → σ1.1 = σ.1 → σ1.2.1 = σ.2.1 → (∀ j, j < i → σ1.2.2.1 a j = 0) → WP X d (0, 0) MJ7_fill_d0a16 6 [(0, vP (some a)), (1, vL 0), (3, vI (i : Int)), (4, vI (n : Int))] [] σ1 Q := by
    intro m
    induction m with
    | zero =>
      intro i σ1 hi hA h1 hI hz
      exact B_J7_fill_d0a16_6 ⟨by omega, by omega, fun _ => hQ σ1 hA hI (fun j hj => hz j (by omega)), fun h => absurd h (by omega)⟩
    | succ m ih =>
      intro i σ1 hi hA h1 hI hz
      refine B_J7_fill_d0a16_6 ⟨by omega, by omega, fun h => absurd h (by omega), fun _ => ⟨⟨n, by rw [h1]; exact hk, by omega, by omega, by omega⟩, ?_⟩⟩
      have := ih (i + 1) (sL σ1 a i 0) (by omega) (hA.sL (sh_L hA.1 (by decide)) rfl) h1 hI (fun j hj => by
        rw [sL_at]
        split
        · rfl
        · next hne => exact hz j (by omega))
      rw [show (((i : Int)).toNat) = i by omega, show (i : Int) + 1 = ((i + 1 : Nat) : Int) by omega]
      exact this
  have := key n 0 σ (by omega) (Ag.rf hs) rfl rfl (fun j hj => absurd hj (by omega))
  exact this
end TAPE
