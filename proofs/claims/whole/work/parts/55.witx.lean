/-! WIT, as the given one works it out -/
section WITX
variable {X : mX} {d : Nat} {σ : mS} {Q : Option mV → mS → Prop}
theorem c_test (hs : Sh σ) {t : Int} (ht : 0 ≤ t ∧ t < 1800) {f : Nat → Int} (hf : ∀ k, k < 6 → σ.2.1 85 k = f k) (hQ : Q (some (vI (bB (evT f t)))) σ) : CALL X d (0, 0) MX1_testHolds [vP (some 85), vI t] σ Q := by
  refine C_X1_testHolds hs ?_
  rw [Int.tdiv_eq_ediv_of_nonneg (a := t) (b := 100) (by omega), Int.tdiv_eq_ediv_of_nonneg (a := t / 100) (b := 3) (by omega), Int.tmod_eq_emod_of_nonneg (a := t / 100) (b := 3) (by omega), Int.tmod_eq_emod_of_nonneg (a := t) (b := 100) (by omega), hf (t / 100 / 3).toNat (by omega)]
  unfold evT at hQ
  refine ⟨by omega, by omega, fun h => absurd h (by omega), fun _ => ⟨fun _ => ⟨fun h3 => ⟨fun h4 => ⟨by omega, fun h5 => ?_, fun h5 => ?_⟩, fun h4 => ⟨by omega, fun h5 => ?_, fun h5 => ?_⟩⟩, fun h3 => ⟨by omega, fun h5 => ?_, fun h5 => ?_⟩⟩, fun h => absurd h (by omega)⟩⟩
  · rw [if_neg h3, if_neg h4, decide_eq_false (by omega)] at hQ; exact hQ
  · rw [if_neg h3, if_neg h4, decide_eq_true (by omega)] at hQ; exact hQ
  · rw [if_neg h3, if_pos h4, decide_eq_false (by omega)] at hQ; exact hQ
  · rw [if_neg h3, if_pos h4, decide_eq_true (by omega)] at hQ; exact hQ
  · rw [if_pos h3, decide_eq_false (by omega)] at hQ; exact hQ
  · rw [if_pos h3, decide_eq_true (by omega)] at hQ; exact hQ
theorem c_holdsL (hs : Sh σ) {a e : Nat} (ha : isB a) {f : Nat → Int} (hf : ∀ k, k < 6 → σ.2.1 85 k = f k) (he : e ≤ 100) {R : Bool} (hQ : Q (some (vI (bB R))) σ) : ∀ (cs : List Int) (st : List Bool) (i : Nat), dp cs st.length = some 1 → st.length ≤ 30 → i + cs.length = e → (∀ j, j < cs.length → σ.2.1 (a + 4) (i + j) = cs.getD j 0) → (evl f cs st).headD false = R →
    WP X (d + 1) (0, 0) MX1_holds 6 [(0, vP (some a)), (1, vP (some 85)), (3, vI (e : Int)), (4, vI (stk st : Int)), (5, vI (i : Int))] [] σ Q := by
  intro cs
  induction cs with
  | nil =>
    intro st i hd hl hi hc hR
    simp only [dp, Option.some.injEq] at hd
    simp only [List.length_nil] at hi
    obtain ⟨b, rfl⟩ : ∃ b, st = [b] := by
      match st, hd with
      | [b], _ => exact ⟨b, rfl⟩
    simp only [evl, List.headD_cons] at hR
    subst hR
    refine C_X1_holds_6 hs ha ⟨by omega, by omega, fun _ => ⟨fun h => ?_, fun h => ?_⟩, fun h => absurd h (by omega)⟩
    · rw [stk_top hl] at h
      cases b with
      | true => exact absurd rfl h
      | false => exact hQ
    · rw [stk_top hl] at h
      cases b with
      | true => exact hQ
      | false => exact absurd h (by decide)
  | cons c cs ih =>
    intro st i hd hl hi hc hR
    simp only [List.length_cons] at hi
    have h0 : σ.2.1 (a + 4) i = c := hc 0 (by simp only [List.length_cons]; omega)
    have hc' : ∀ j, j < cs.length → σ.2.1 (a + 4) (i + 1 + j) = cs.getD j 0 := fun j hj => by
      have := hc (j + 1) (by simp only [List.length_cons]; omega)
      rw [List.getD_cons_succ] at this
      rw [← this, show i + 1 + j = i + (j + 1) by omega]
    simp only [dp] at hd
    refine C_X1_holds_6 hs ha ⟨by omega, by omega, fun h => absurd h (by omega), fun _ => ⟨fun h => absurd h (by omega), fun _ => ⟨by omega, by omega, ?_⟩⟩⟩
    rw [show ((i : Int)).toNat = i by omega, h0, show (i : Int) + 1 = ((i + 1 : Nat) : Int) by omega]
    simp only [evl] at hR
    refine ⟨fun k0 => ⟨fun k1 => ⟨fun k2 => ?_, fun k2 => ?_⟩, fun k1 => ?_⟩, fun k0 => ?_⟩
    · rw [if_neg k0, if_neg (by omega)] at hd
      split at hd
      · next hh =>
        refine c_test hs (by omega) hf ⟨_, rfl, hs, fun hz => ?_, fun hz => ?_⟩
        · rw [show (0 : Int) = bB (evT f (c - 3)) by rw [hz]; rfl, stk_push (by omega)]
          refine ih _ (i + 1) (by rw [List.length_cons]; exact hd) (by simp only [List.length_cons]; omega) (by omega) hc' ?_
          rw [← hR]
          unfold evS
          rw [if_neg k0, if_neg k1, if_neg k2]
        · rw [show (1 : Int) = bB (evT f (c - 3)) by rw [hz]; rfl]
          rw [show (bshl ((stk st : Nat) : Int) (bB (evT f (c - 3)))) = bshl ((stk st : Nat) : Int) 1 by rw [hz]; rfl]
          rw [stk_push (by omega)]
          refine ih _ (i + 1) (by rw [List.length_cons]; exact hd) (by simp only [List.length_cons]; omega) (by omega) hc' ?_
          rw [← hR]
          unfold evS
          rw [if_neg k0, if_neg k1, if_neg k2]
      · cases hd
    · rw [if_neg k0, if_pos (Or.inr k2)] at hd
      split at hd
      · match st, hl, hd, hR with
        | b :: a' :: r, hl, hd, hR =>
          rw [stk_or hl]
          refine ih _ (i + 1) (by rw [← hd]; rfl) (by simp only [List.length_cons] at hl ⊢; omega) (by omega) hc' ?_
          rw [← hR]
          unfold evS
          rw [if_neg k0, if_neg k1, if_pos k2]
          rfl
        | [b], _, _, _ => simp only [List.length_cons, List.length_nil] at *; omega
        | [], _, _, _ => simp only [List.length_nil] at *; omega
      · cases hd
    · rw [if_neg k0, if_pos (Or.inl k1)] at hd
      split at hd
      · match st, hl, hd, hR with
        | b :: a' :: r, hl, hd, hR =>
          rw [stk_and hl]
          refine ih _ (i + 1) (by rw [← hd]; rfl) (by simp only [List.length_cons] at hl ⊢; omega) (by omega) hc' ?_
          rw [← hR]
          unfold evS
          rw [if_neg k0, if_pos k1]
          rfl
        | [b], _, _, _ => simp only [List.length_cons, List.length_nil] at *; omega
        | [], _, _, _ => simp only [List.length_nil] at *; omega
      · cases hd
    · rw [if_pos k0] at hd
      split at hd
      · match st, hl, hd, hR with
        | b :: r, hl, hd, hR =>
          rw [stk_not hl]
          refine ih _ (i + 1) (by rw [← hd]; rfl) (by simp only [List.length_cons] at hl ⊢; omega) (by omega) hc' ?_
          rw [← hR]
          unfold evS
          rw [if_pos k0]
          rfl
        | [], _, _, _ => simp only [List.length_nil] at *; omega
      · cases hd
theorem c_holds (hs : Sh σ) {a i e : Nat} (ha : isB a) {f : Nat → Int} (hf : ∀ k, k < 6 → σ.2.1 85 k = f k) {cs : List Int} (he : e ≤ 100) (hi : i + cs.length = e) (hd : dp cs 0 = some 1) (hc : ∀ j, j < cs.length → σ.2.1 (a + 4) (i + j) = cs.getD j 0) (hQ : Q (some (vI (bB ((evl f cs []).headD false)))) σ) : CALL X (d + 1) (0, 0) MX1_holds [vP (some a), vP (some 85), vI (i : Int), vI (e : Int)] σ Q :=
  C_X1_holds hs ha (c_holdsL hs ha hf he hQ cs [] i hd (by decide) hi hc rfl)
theorem c_bonusL (hs : Sh σ) {a : Nat} (ha : isB a) {f : Nat → Int} (hf : ∀ k, k < 6 → σ.2.1 85 k = f k) {K : List mCl} (h4 : σ.2.1 a 4 = K.length) (hK : K.length ≤ 10) (hok : ∀ c ∈ K, okC c ∧ c.1 < 2)
    (hr : ∀ i, i < K.length → σ.2.1 (a + 1) i = worC (K.getD i cl0) ∧ 0 ≤ σ.2.1 (a + 2) i ∧ σ.2.1 (a + 3) i = σ.2.1 (a + 2) i + (K.getD i cl0).2.2.length ∧ σ.2.1 (a + 3) i ≤ 100 ∧ ∀ j : Nat, j < (K.getD i cl0).2.2.length → σ.2.1 (a + 4) ((σ.2.1 (a + 2) i).toNat + j) = (K.getD i cl0).2.2.getD j 0)
    {R : Int} (hQ : Q (some (vI R)) σ) : ∀ (L : List mCl) (i : Nat) (s : Int), i + L.length = K.length → K.drop i = L → s + bonK f L = R → WP X (d + 2) (0, 0) MX1_bonus 4 [(0, vP (some a)), (1, vP (some 85)), (2, vI s), (3, vI (i : Int))] [] σ Q := by
  intro L
  induction L with
  | nil =>
    intro i s hi hd hR
    simp only [List.length_nil] at hi
    simp only [bonK, Int.add_zero] at hR
    subst hR
    exact C_X1_bonus_4 hs ha ⟨by omega, fun _ => hQ, fun h => absurd h (by omega)⟩
  | cons c L ih =>
    intro i s hi hd hR
    simp only [List.length_cons] at hi
    have hlt : i < K.length := by omega
    have hcons := List.drop_eq_getElem_cons hlt
    rw [hd] at hcons
    obtain ⟨e1, e2⟩ := List.cons.inj hcons
    have eg : K.getD i cl0 = c := by rw [e1, List.getD_eq_getElem?_getD, List.getElem?_eq_getElem hlt]; rfl
    obtain ⟨r1, r2, r3, r4, r5⟩ := hr i hlt
    rw [eg] at r1 r3 r5
    obtain ⟨o1, o2⟩ := hok c (by rw [e1]; exact List.getElem_mem hlt)
    simp only [bonK] at hR
    refine C_X1_bonus_4 hs ha ⟨by omega, fun h => absurd h (by omega), fun _ => ⟨by omega, by omega, ?_⟩⟩
    rw [show ((i : Int)).toNat = i by omega, show (i : Int) + 1 = ((i + 1 : Nat) : Int) by omega]
    obtain ⟨n2, hn2⟩ : ∃ n : Nat, σ.2.1 (a + 2) i = (n : Int) := ⟨(σ.2.1 (a + 2) i).toNat, by omega⟩
    rw [r3, hn2, show ((n2 : Int) + (c.2.2.length : Int)) = ((n2 + c.2.2.length : Nat) : Int) by omega]
    rw [hn2, show ((n2 : Int)).toNat = n2 by omega] at r5
    refine c_holds hs ha hf (cs := c.2.2) (by omega) rfl (o1.2.2.1 o2) r5 ⟨_, rfl, hs, fun hz => ?_, fun hz => ?_⟩
    · refine ih (i + 1) _ (by omega) e2.symm ?_
      rw [show holC f c = false from hz] at hR
      rw [← hR]
      simp only [Bool.false_eq_true, if_false]
      omega
    · refine ih (i + 1) _ (by omega) e2.symm ?_
      rw [show holC f c = true from hz] at hR
      rw [← hR, r1]
      simp only [if_true]
      omega
/-- what all keen and dull give -/
theorem c_bonus0 (hs : Sh σ) {b : Nat} (hb : b < 6) {B : List mCl} (hB : RepX σ.2.1 b B) (hok : ∀ c ∈ B, okC c) (hl : B.length ≤ 10) {f : Nat → Int} (hf : ∀ k, k < 6 → σ.2.1 85 k = f k) (hQ : Q (some (vI (bonS f B))) σ) : CALL X (d + 2) (0, 0) MX1_bonus [vP (some (86 + 5 * b)), vP (some 85)] σ Q := by
  have ha : isB (86 + 5 * b) := ⟨b, hb, rfl⟩
  obtain ⟨-, r4, r⟩ := hB
  have hk : (keepC B).length ≤ B.length := List.length_filter_le _ _
  refine C_X1_bonus hs ha (c_bonusL hs ha hf (K := keepC B) r4 (by omega) (fun c hc => ?_) r hQ (keepC B) 0 0 (by omega) rfl (by rw [Int.zero_add]; rfl))
  have := List.mem_filter.mp hc
  exact ⟨hok c this.1, by simpa using this.2⟩
end WITX
