/-! WIT, as the given one works it out -/
section WITX
variable {X : mX} {d : Nat} {σ : mS} {Q : Option mV → mS → Prop}
theorem c_test (hs : Sh σ) {a : Nat} (ha : isB a) {t : Int} (ht : 0 ≤ t ∧ t < 1800) {f : Nat → Int} (hf : ∀ k, k < 6 → σ.2.1 (a + 2) k = f k) (hQ : Q (some (vI (bB (evT f t)))) σ) : CALL X d (0, 0) MX1_testHolds [vP (some a), vI t] σ Q := by
  refine C_X1_testHolds hs ha ?_
  rw [Int.tdiv_eq_ediv_of_nonneg (a := t) (b := 100) (by omega), Int.tdiv_eq_ediv_of_nonneg (a := t / 100) (b := 3) (by omega), Int.tmod_eq_emod_of_nonneg (a := t / 100) (b := 3) (by omega), Int.tmod_eq_emod_of_nonneg (a := t) (b := 100) (by omega), hf (t / 100 / 3).toNat (by omega)]
  unfold evT at hQ
  refine ⟨by omega, by omega, fun h => absurd h (by omega), fun _ => ⟨fun _ => ⟨fun h3 => ⟨fun h4 => ⟨by omega, fun h5 => ?_, fun h5 => ?_⟩, fun h4 => ⟨by omega, fun h5 => ?_, fun h5 => ?_⟩⟩, fun h3 => ⟨by omega, fun h5 => ?_, fun h5 => ?_⟩⟩, fun h => absurd h (by omega)⟩⟩
  · rw [if_neg h3, if_neg h4, decide_eq_false (by omega)] at hQ; exact hQ
  · rw [if_neg h3, if_neg h4, decide_eq_true (by omega)] at hQ; exact hQ
  · rw [if_neg h3, if_pos h4, decide_eq_false (by omega)] at hQ; exact hQ
  · rw [if_neg h3, if_pos h4, decide_eq_true (by omega)] at hQ; exact hQ
  · rw [if_pos h3, decide_eq_false (by omega)] at hQ; exact hQ
  · rw [if_pos h3, decide_eq_true (by omega)] at hQ; exact hQ
theorem c_codes (hs : Sh σ) {a N : Nat} (ha : isB a) {f : Nat → Int} (hf : ∀ k, k < 6 → σ.2.1 (a + 2) k = f k) (hN : σ.2.1 a 2 = N) (hN1 : N ≤ 100) {s : Int} : ∀ (cs : List Int) (st : List Bool) (i : Nat), dp cs st.length = some 1 → st.length ≤ 30 → i + cs.length ≤ N → (∀ j, j < cs.length → σ.2.1 (a + 1) (i + j) = cs.getD j 0) → (∀ b, evl f cs st = [b] → WP X (d + 1) (0, 0) MX1_bonus 81 [(0, vP (some a)), (6, vI s), (7, vI (stk [b] : Int)), (8, vI ((i + cs.length : Nat) : Int))] [] σ Q) →
    WP X (d + 1) (0, 0) MX1_bonus 81 [(0, vP (some a)), (6, vI s), (7, vI (stk st : Int)), (8, vI (i : Int))] [] σ Q := by
  intro cs
  induction cs with
  | nil =>
    intro st i hd hl hi hc hk
    simp only [dp, Option.some.injEq] at hd
    obtain ⟨b, rfl⟩ : ∃ b, st = [b] := by
      match st, hd with
      | [b], _ => exact ⟨b, rfl⟩
    exact hk b rfl
  | cons c cs ih =>
    intro st i hd hl hi hc hk
    simp only [List.length_cons] at hi
    have h0 : σ.2.1 (a + 1) i = c := hc 0 (by simp only [List.length_cons]; omega)
    have hc' : ∀ j, j < cs.length → σ.2.1 (a + 1) (i + 1 + j) = cs.getD j 0 := fun j hj => by
      have := hc (j + 1) (by simp only [List.length_cons]; omega)
      rw [List.getD_cons_succ] at this
      rw [← this, show i + 1 + j = i + (j + 1) by omega]
    have hk' : ∀ b, evl f cs (evS f c st) = [b] → WP X (d + 1) (0, 0) MX1_bonus 81 [(0, vP (some a)), (6, vI s), (7, vI (stk [b] : Int)), (8, vI ((i + 1 + cs.length : Nat) : Int))] [] σ Q := fun b hb => by
      have := hk b hb
      rw [List.length_cons, show i + (cs.length + 1) = i + 1 + cs.length by omega] at this
      exact this
    simp only [dp] at hd
    refine C_X1_bonus_81 hs ha ⟨by omega, fun h => absurd h (by omega), fun _ => ⟨fun h => absurd h (by omega), fun _ => ⟨by omega, by omega, ?_⟩⟩⟩
    rw [show ((i : Int)).toNat = i by omega, h0, show (i : Int) + 1 = ((i + 1 : Nat) : Int) by omega]
    refine ⟨fun k0 => ⟨fun k1 => ⟨fun k2 => ⟨fun kw => ?_, fun kw => ?_⟩, fun k2 => ?_⟩, fun k1 => ?_⟩, fun k0 => ?_⟩
    · rw [if_neg k0, if_neg (by omega)] at hd
      split at hd
      · omega
      · cases hd
    · rw [if_neg k0, if_neg (by omega)] at hd
      split at hd
      · next hh =>
        have es : evS f c st = evT f (c - 3) :: st := by
          unfold evS
          rw [if_neg k0, if_neg k1, if_neg k2]
        rw [es] at hk'
        refine c_test hs ha (by omega) hf ⟨_, rfl, hs, fun hz => ?_, fun hz => ?_⟩
        · rw [show (0 : Int) = bB (evT f (c - 3)) by rw [hz]; rfl, stk_push (by omega)]
          exact ih _ (i + 1) (by rw [List.length_cons]; exact hd) (by simp only [List.length_cons]; omega) (by omega) hc' hk'
        · rw [show (1 : Int) = bB (evT f (c - 3)) by rw [hz]; rfl]
          rw [show (bshl ((stk st : Nat) : Int) (bB (evT f (c - 3)))) = bshl ((stk st : Nat) : Int) 1 by rw [hz]; rfl]
          rw [stk_push (by omega)]
          exact ih _ (i + 1) (by rw [List.length_cons]; exact hd) (by simp only [List.length_cons]; omega) (by omega) hc' hk'
      · cases hd
    · rw [if_neg k0, if_pos (Or.inr k2)] at hd
      split at hd
      · match st, hl, hd, hk' with
        | b :: a' :: r, hl, hd, hk' =>
          have es : evS f c (b :: a' :: r) = (a' || b) :: r := by
            unfold evS
            rw [if_neg k0, if_neg k1, if_pos k2]
            rfl
          rw [es] at hk'
          rw [stk_or hl]
          exact ih _ (i + 1) (by rw [← hd]; rfl) (by simp only [List.length_cons] at hl ⊢; omega) (by omega) hc' hk'
        | [b], _, _, _ => simp only [List.length_cons, List.length_nil] at *; omega
        | [], _, _, _ => simp only [List.length_nil] at *; omega
      · cases hd
    · rw [if_neg k0, if_pos (Or.inl k1)] at hd
      split at hd
      · match st, hl, hd, hk' with
        | b :: a' :: r, hl, hd, hk' =>
          have es : evS f c (b :: a' :: r) = (a' && b) :: r := by
            unfold evS
            rw [if_neg k0, if_pos k1]
            rfl
          rw [es] at hk'
          rw [stk_and hl]
          exact ih _ (i + 1) (by rw [← hd]; rfl) (by simp only [List.length_cons] at hl ⊢; omega) (by omega) hc' hk'
        | [b], _, _, _ => simp only [List.length_cons, List.length_nil] at *; omega
        | [], _, _, _ => simp only [List.length_nil] at *; omega
      · cases hd
    · rw [if_pos k0] at hd
      split at hd
      · match st, hl, hd, hk' with
        | b :: r, hl, hd, hk' =>
          have es : evS f c (b :: r) = (!b) :: r := by
            unfold evS
            rw [if_pos k0]
            rfl
          rw [es] at hk'
          rw [stk_not hl]
          exact ih _ (i + 1) (by rw [← hd]; rfl) (by simp only [List.length_cons] at hl ⊢; omega) (by omega) hc' hk'
        | [], _, _, _ => simp only [List.length_nil] at *; omega
      · cases hd
theorem c_bonusL (hs : Sh σ) {a N : Nat} (ha : isB a) {f : Nat → Int} (hf : ∀ k, k < 6 → σ.2.1 (a + 2) k = f k) (hN : σ.2.1 a 2 = N) (hN1 : N ≤ 100) {R : Int} (hQ : Q (some (vI R)) σ) : ∀ (K : List mCl) (i : Nat) (s : Int), (∀ c ∈ K, okC c ∧ c.1 < 2) → i + (flX K).length = N → (∀ j, j < (flX K).length → σ.2.1 (a + 1) (i + j) = (flX K).getD j 0) → s + bonK f K = R →
    WP X (d + 1) (0, 0) MX1_bonus 81 [(0, vP (some a)), (6, vI s), (7, vI 0), (8, vI (i : Int))] [] σ Q
  | [], i, s, _, hi, _, hR => by
    simp only [flX, List.length_nil] at hi
    simp only [bonK, Int.add_zero] at hR
    subst hR
    exact C_X1_bonus_81 hs ha ⟨by omega, fun _ => hQ, fun h => absurd h (by omega)⟩
  | c :: K, i, s, hok, hi, hc, hR => by
    obtain ⟨o1, o2⟩ := hok c List.mem_cons_self
    have hw := worC_r o1
    have hl : (flX (c :: K)).length = c.2.2.length + 1 + (flX K).length := by
      simp only [flX, List.length_append, List.length_cons]
      omega
    have g1 : ∀ j, j < c.2.2.length → σ.2.1 (a + 1) (i + j) = c.2.2.getD j 0 := fun j hj => by
      rw [hc j (by omega)]
      simp only [flX]
      rw [List.getD_eq_getElem?_getD, List.getD_eq_getElem?_getD, List.getElem?_append_left hj]
    have g2 : σ.2.1 (a + 1) (i + c.2.2.length) = 10000 + worC c := by
      rw [hc _ (by omega)]
      simp only [flX]
      rw [List.getD_eq_getElem?_getD, List.getElem?_append_right (Nat.le_refl _), Nat.sub_self]
      rfl
    have g3 : ∀ j, j < (flX K).length → σ.2.1 (a + 1) (i + c.2.2.length + 1 + j) = (flX K).getD j 0 := fun j hj => by
      rw [show i + c.2.2.length + 1 + j = i + (c.2.2.length + 1 + j) by omega, hc _ (by omega)]
      simp only [flX]
      rw [List.getD_eq_getElem?_getD, List.getD_eq_getElem?_getD, List.getElem?_append_right (by omega), show c.2.2.length + 1 + j - c.2.2.length = j + 1 by omega, List.getElem?_cons_succ]
    refine c_codes (d := d) (s := s) hs ha hf hN hN1 c.2.2 [] i (o1.2.2.1 o2) (by decide) (by omega) g1 (fun b hb => ?_)
    refine C_X1_bonus_81 hs ha ⟨by omega, fun h => absurd h (by omega), fun _ => ⟨fun h => absurd h (by omega), fun _ => ⟨by omega, by omega, ?_⟩⟩⟩
    rw [Int.toNat_natCast, g2, stk_top (show [b].length ≤ 30 by simp)]
    refine ⟨fun _ => ⟨fun _ => ⟨fun _ => ⟨fun _ => ?_, fun q => absurd q (by omega)⟩, fun q => absurd q (by omega)⟩, fun q => absurd q (by omega)⟩, fun q => absurd q (by omega)⟩
    rw [show ((i + c.2.2.length : Nat) : Int) + 1 = ((i + c.2.2.length + 1 : Nat) : Int) by omega]
    refine c_bonusL hs ha hf hN hN1 hQ K _ _ (fun c' hc' => hok c' (List.mem_cons_of_mem _ hc')) (by omega) g3 ?_
    rw [← hR]
    simp only [bonK]
    have hh : holC f c = b := by
      unfold holC
      rw [hb]
      rfl
    rw [hh]
    cases b with
    | false =>
      rw [show bB false = 0 from rfl, Int.zero_mul]
      simp only [Bool.false_eq_true, if_false]
      omega
    | true =>
      rw [show bB true = 1 from rfl, Int.one_mul]
      simp only [if_true]
      omega
end WITX
