/-! ask, pass -/
section ASKOP
variable {X : mX} {d : Nat} {σ : mS} {Q : Option mV → mS → Prop} {y : Nat} {Y : mY} {B : List mCl}
theorem DX_m (hy : isY y) : ∀ a k, DX y a k → ¬ FYm a k := fun a k h => by
  unfold DX FYx at h
  unfold FYm
  rcases hy with rfl | rfl | rfl <;> omega
theorem MB.one (h : MB σ B) : (0 ≤ σ.2.1 125 0 ∧ σ.2.1 125 0 ≤ 6) ∧ (0 ≤ σ.2.1 125 6 ∧ σ.2.1 125 6 ≤ 6) ∧ (0 ≤ σ.2.1 125 11 ∧ σ.2.1 125 11 ≤ 1000000) := ⟨h.2.1.1, h.2.1.2.1, h.2.1.2.2.1⟩
theorem op_ask (hi : Inv σ) {x1 x2 : Int} (h1 : -2147483648 ≤ x1 ∧ x1 ≤ 2147483647) (h2 : -2147483648 ≤ x2 ∧ x2 ≤ 2147483647) : BothI X (d + 8) MX10_ask MX11_ask [vI x1, vI x2] σ Inv := by
  have hs := hi.1
  obtain ⟨B, hM, hX⟩ := hi.bB
  have hc := hX.c
  refine C_X10_ask hs ?_
  by_cases hq : 0 ≤ x1 ∧ x1 < σ.2.1 125 6
  · obtain ⟨q, rfl⟩ : ∃ q : Nat, x1 = (q : Int) := ⟨x1.toNat, by omega⟩
    have hq6 : q < 6 := by omega
    have gq := hX.q hq6
    refine c_questionY hX hq.2 ⟨_, rfl, hs, fun hz => (by cases hz), fun a ha => ?_⟩
    obtain rfl := Option.some.inj ha
    refine ⟨hX.isQ hq6, ?_⟩
    by_cases hp : 0 ≤ x2 ∧ x2 < σ.2.1 125 0
    · obtain ⟨p, rfl⟩ : ∃ p : Nat, x2 = (p : Int) := ⟨x2.toNat, by omega⟩
      have hp6 : p < 6 := by omega
      refine c_guardY hX hp.2 ⟨_, rfl, hs, fun hz => (by cases hz), fun a ha => ?_⟩
      obtain rfl := Option.some.inj ha
      rw [gq.2.2.1]
      refine ⟨hX.isG hp6, fun h0 => c_putTo hX hq.2 (by omega) (fun σ1 hA k1 => ⟨rfl, hA.1, _, rfl, hA.1, hA.1.2.2.1 _ _, ?_⟩), fun h0 => ⟨_, rfl, hs, by decide, ?_⟩⟩
      · have hM1 := hM.fr hA (DX_ok (Or.inl rfl)) (DX_m (Or.inl rfl))
        have e1 := hA.ey (DX_m (Or.inl rfl))
        have o1 := hM1.one
        have w1 := hM1.2.1
        refine C_X11_ask hA.1 (c_isAsked hA.1 (by omega) o1.2.1 ⟨_, rfl, hA.1, fun hz => absurd (of_decide_eq_false hz) (by rw [e1.c (by decide)]; omega), fun _ => c_isOne hA.1 (by omega) o1.1 ⟨_, rfl, hA.1, fun hz => absurd (of_decide_eq_false hz) (by rw [e1.c (by decide)]; omega), fun _ => ⟨by omega, by omega, ?_⟩⟩⟩)
        rw [show ((q : Int)).toNat = q by omega, e1.a (a := 133) (by decide)]
        have e2 : EY (askY B σ.2.1 q p) (putY B σ1.2.1 q p) := by
          have := putY_e (B := B) e1 q p
          unfold askY
          rw [if_pos ⟨h0, by omega, by omega⟩, show ((p : Int)).toNat = p by omega]
          exact this
        refine ⟨fun _ => m_ask1 hM1.ms hq6 hp6 (fun σ2 hB h2 => ?_), fun hz => absurd h0 hz⟩
        have e3 := e2.tr h2.ey
        refine ⟨rfl, h2.1.1, ?_, ?_⟩
        · rw [(k1.q hq6).2.2.1, e3.a (by decide)]
        · refine hi.step hA k1 hB (fun a k q _ => e3 a k q) ?_
          rw [askY_o (by decide)]
          exact hi.2.1.2.2
      · refine C_X11_ask hs (c_isAsked hs (by omega) hc.2.2.1 ⟨_, rfl, hs, fun hz => absurd (of_decide_eq_false hz) (by omega), fun _ => c_isOne hs (by omega) hc.2.1 ⟨_, rfl, hs, fun hz => absurd (of_decide_eq_false hz) (by omega), fun _ => ⟨by omega, by omega, fun hz => absurd hz h0, fun _ => ⟨rfl, hi⟩⟩⟩⟩)
    · refine c_guardN hX h2 hp ⟨_, rfl, hs, fun _ => ⟨_, rfl, hs, by decide, ?_⟩, fun a ha => by cases ha⟩
      exact C_X11_ask hs (c_isAsked hs (by omega) hc.2.2.1 ⟨_, rfl, hs, fun hz => absurd (of_decide_eq_false hz) (by omega), fun _ => c_isOne hs h2 hc.2.1 ⟨_, rfl, hs, fun _ => ⟨rfl, hi⟩, fun hz => absurd (of_decide_eq_true hz) hp⟩⟩)
  · refine c_questionN hX h1 hq ⟨_, rfl, hs, fun _ => ⟨_, rfl, hs, by decide, ?_⟩, fun a ha => by cases ha⟩
    exact C_X11_ask hs (c_isAsked hs h1 hc.2.2.1 ⟨_, rfl, hs, fun _ => ⟨rfl, hi⟩, fun hz => absurd (of_decide_eq_true hz) hq⟩)
theorem m_passL {σ0 : mS} {N : Nat} (hN : N ≤ 60) {Z : mY} (hQ : ∀ σ', Agk DM σ0 σ' → MS σ' Z B → Q (some (vI (σ'.2.1 125 11))) σ') : ∀ (m i : Nat) (σ : mS) (Y1 : mY), i + m = N → Agk DM σ0 σ → MS σ Y1 B → Y1 125 11 + m < 1000000 → hoursY B m Y1 = Z → WP X (d + 8) (0, 0) MX11_pass 30 [(0, vP (some 125)), (1, vI (N : Int)), (2, vI (i : Int))] [] σ Q := by
  intro m
  induction m with
  | zero =>
    intro i σ Y1 hi hA h h11 hE
    simp only [hoursY] at hE
    subst hE
    exact C_X11_pass_30 h.1.1 ⟨by omega, by omega, fun _ => hQ σ hA h, fun hz => absurd hz (by omega)⟩
  | succ m ih =>
    intro i σ Y1 hi hA h h11 hE
    refine C_X11_pass_30 h.1.1 ⟨by omega, by omega, fun hz => absurd hz (by omega), fun _ => m_hour h (by omega) (fun σ1 hA1 h1 => ⟨rfl, hA1.1, ?_⟩)⟩
    rw [show (i : Int) + 1 = ((i + 1 : Nat) : Int) by omega]
    refine ih (i + 1) σ1 _ (by omega) (DM_tr hA hA1) h1 ?_ hE
    rw [hourY_h]
    omega
theorem op_pass (hi : Inv σ) {x1 : Int} (h1 : -2147483648 ≤ x1 ∧ x1 ≤ 2147483647) : BothI X (d + 10) MX10_pass MX11_pass [vI x1] σ Inv := by
  have hs := hi.1
  obtain ⟨B, hM, hX⟩ := hi.bB
  have hc := hX.c
  have h99 := hi.2.1.2.2
  refine C_X10_pass hs (c_isHours hs h1 ⟨_, rfl, hs, fun hz => ⟨_, rfl, hs, by decide, ?_⟩, fun hz => ?_⟩)
  · exact C_X11_pass hs (c_within hs h1 (by decide) (by decide) ⟨_, rfl, hs, fun _ => ⟨rfl, hi⟩, fun hz2 => absurd (of_decide_eq_true hz2) (of_decide_eq_false hz)⟩)
  · have hx := of_decide_eq_true hz
    obtain ⟨N, rfl⟩ : ∃ N : Nat, x1 = (N : Int) := ⟨x1.toNat, by omega⟩
    rw [hc.1.2.2.1]
    refine ⟨by omega, fun hle => c_letPass hX (by omega) (by omega) (fun σ1 hA k1 => ⟨rfl, hA.1, _, rfl, hA.1, hA.1.2.2.1 _ _, ?_⟩), fun hle => ⟨_, rfl, hs, by decide, ?_⟩⟩
    · have hM1 := hM.fr hA (DX_ok (Or.inl rfl)) (DX_m (Or.inl rfl))
      have e1 := hA.ey (DX_m (Or.inl rfl))
      have e11 := e1.c (k := 11) (by decide)
      refine C_X11_pass hA.1 (c_within hA.1 h1 (by decide) (by decide) ⟨_, rfl, hA.1, fun hz2 => absurd hx (of_decide_eq_false hz2), fun _ => ⟨by omega, fun _ => ?_, fun hz2 => absurd hz2 (by omega)⟩⟩)
      refine m_passL (Z := hoursY B N σ1.2.1) (by omega) (fun σ2 hB k2 => ?_) N 0 σ1 _ (by omega) (Agk.rf hA.1) hM1.ms (by omega) rfl
      have e3 := (hoursY_e (B := B) N e1).tr k2.ey
      refine ⟨?_, hi.step hA k1 hB (fun a k q _ => e3 a k q) ?_⟩
      · rw [k1.c.1.2.2.1, e3.c (by decide)]
      · rw [hoursY_h]
        omega
    · exact C_X11_pass hs (c_within hs h1 (by decide) (by decide) ⟨_, rfl, hs, fun hz2 => absurd hx (of_decide_eq_false hz2), fun _ => ⟨by omega, fun hz2 => absurd hz2 hle, fun _ => ⟨rfl, hi⟩⟩⟩)
end ASKOP
