/-! plan -/
section PLANSB
variable {X : mX} {d : Nat} {σ : mS} {Q : Option mV → mS → Prop}
def plOk (g q x1 x2 : Int) : Prop := x1 = 0 ∨ (x1 = 1 ∧ 0 ≤ x2 ∧ x2 / 10 < q ∧ x2 % 10 < g) ∨ (x1 = 2 ∧ 0 ≤ x2 ∧ x2 < g) ∨ (x1 = 3 ∧ 0 ≤ x2 ∧ x2 < q)
theorem tdiv10 {x : Int} (h : 0 ≤ x) : x.tdiv 10 = x / 10 := Int.tdiv_eq_ediv_of_nonneg h
theorem tmod10 {x : Int} (h : 0 ≤ x) : x.tmod 10 = x % 10 := Int.tmod_eq_emod_of_nonneg h
theorem c_isPlanned (hs : Sh σ) {x1 x2 : Int} (h1 : -2147483648 ≤ x1 ∧ x1 ≤ 2147483647) (h2 : -2147483648 ≤ x2 ∧ x2 ≤ 2147483647) (hg : σ.2.1 1 5 ≤ 6) (hq : σ.2.1 1 6 ≤ 6)
    (q1 : plOk (σ.2.1 1 5) (σ.2.1 1 6) x1 x2 → Q (some (vI (bB true))) σ) (q0 : ¬ plOk (σ.2.1 1 5) (σ.2.1 1 6) x1 x2 → Q (some (vI (bB false))) σ) : CALL X (d + 1) (0, 0) MX10_isPlanned [vP (some 0), vI x1, vI x2] σ Q := by
  unfold plOk at q0 q1
  refine C_X10_isPlanned hs ⟨h1, fun h => q1 (by omega), fun h => ⟨h2, fun h3 => q0 (by omega), fun h3 => ⟨by omega, ?_⟩⟩, fun h => c_guardAt hs (Or.inl rfl) h2 hg ⟨_, rfl, hs, fun h5 => q0 ?_, fun a ha => ?_⟩, fun h => c_questionAt hs (Or.inl rfl) h2 hq ⟨_, rfl, hs, fun h5 => q0 ?_, fun a ha => ?_⟩, fun h => q0 (by omega)⟩
  · rw [tdiv10 (by omega), tmod10 (by omega)]
    refine c_questionAt hs (Or.inl rfl) (by omega) hq ⟨_, rfl, hs, fun h5 => q0 ?_, fun a ha => ?_⟩
    · have := qAt_none h5
      omega
    · obtain ⟨hq', hr, rfl⟩ := qAt_some (Or.inl rfl) ha hq
      refine ⟨hq', c_guardAt hs (Or.inl rfl) (by omega) hg ⟨_, rfl, hs, fun h5 => q0 ?_, fun a hb => ?_⟩⟩
      · have := gAt_none h5
        omega
      · obtain ⟨hg', hr2, rfl⟩ := gAt_some (Or.inl rfl) hb hg
        exact ⟨hg', q1 (by omega)⟩
  · have := gAt_none h5
    omega
  · obtain ⟨hg', hr2, rfl⟩ := gAt_some (Or.inl rfl) ha hg
    exact ⟨hg', q1 (by omega)⟩
  · have := qAt_none h5
    omega
  · obtain ⟨hq', hr, rfl⟩ := qAt_some (Or.inl rfl) ha hq
    exact ⟨hq', q1 (by omega)⟩
theorem m_plan (hs : Sh σ) {x1 x2 : Int} (h1 : -2147483648 ≤ x1 ∧ x1 ≤ 2147483647) (h2 : -2147483648 ≤ x2 ∧ x2 ≤ 2147483647) {n : Nat} (hn : σ.2.1 125 32 = (n : Int)) (hn8 : n ≤ 10) (hg : 0 ≤ σ.2.1 125 0 ∧ σ.2.1 125 0 ≤ 6) (hq : 0 ≤ σ.2.1 125 6 ∧ σ.2.1 125 6 ≤ 6)
    (q0 : x1 = -1 → Q (some (vI 0)) (sI σ 125 32 0)) (q1 : x1 ≠ -1 → ¬ plOk (σ.2.1 125 0) (σ.2.1 125 6) x1 x2 → Q (some (vI (-1))) σ) (q3 : plOk (σ.2.1 125 0) (σ.2.1 125 6) x1 x2 → n = 10 → Q (some (vI (-4))) σ)
    (q4 : plOk (σ.2.1 125 0) (σ.2.1 125 6) x1 x2 → n < 10 → ∀ σ', Agk (fun a k => (a = 125 ∧ k = 32) ∨ (a = 146 ∧ k = n) ∨ (a = 147 ∧ k = n)) σ σ' → σ'.2.1 125 32 = (n : Int) + 1 → σ'.2.1 146 n = x1 → σ'.2.1 147 n = (if x1 = 0 then 0 else x2) → Q (some (vI ((n : Int) + 1))) σ') : CALL X (d + 2) (0, 0) MX11_plan [vP (some 125), vI x1, vI x2] σ Q := by
  have k86 : plOk (σ.2.1 125 0) (σ.2.1 125 6) x1 x2 → WP X (d + 2) (0, 0) MX11_plan 86 [(0, vP (some 125)), (1, vI x1), (2, vI x2)] [] σ Q := by
    intro hok
    have q4 := q4 hok
    have q3 := q3 hok
    refine C_X11_plan_86 hs ⟨fun h5 => ?_, fun h5 => q3 (by omega)⟩
    have a1 : (σ.2.1 125 32).toNat = n := by omega
    rw [a1]
    have e1 : (sI σ 146 n x1).2.1 125 32 = (n : Int) := by rw [sI_at, if_neg (by omega), hn]
    rw [e1]
    have hs1 : Sh (sI σ 146 n x1) := sh_I hs h1 (hs.k (a := 146) rfl) (Or.inl (by decide))
    have hs2 : Sh (sI (sI σ 146 n x1) 125 32 ((n : Int) + 1)) := sh_I hs1 (by omega) (hs1.k (a := 125) rfl) (Or.inl (by decide))
    have fin : ∀ z : Int, z = (if x1 = 0 then 0 else x2) → WP X (d + 2) (0, 0) MX11_plan 132 [(0, vP (some 125))] [vI z, vI (n : Int), vP (some 147)] (sI (sI σ 146 n x1) 125 32 ((n : Int) + 1)) Q := by
      intro z hz
      have hzr : -2147483648 ≤ z ∧ z ≤ 2147483647 := by split at hz <;> omega
      refine C_X11_plan_132 hs2 ⟨by omega, by omega, hzr, ?_⟩
      rw [show ((n : Int)).toNat = n by omega]
      have hs3 : Sh (sI (sI (sI σ 146 n x1) 125 32 ((n : Int) + 1)) 147 n z) := sh_I hs2 hzr (hs2.k (a := 147) rfl) (Or.inl (by decide))
      have e3 : (sI (sI (sI σ 146 n x1) 125 32 ((n : Int) + 1)) 147 n z).2.1 125 32 = (n : Int) + 1 := by rw [sI_at, if_neg (by omega), sI_at, if_pos ⟨rfl, rfl⟩]
      rw [e3]
      exact q4 (by omega) _ ((((Agk.rf hs).sI hs1 (Or.inr (Or.inl ⟨rfl, rfl⟩))).sI hs2 (Or.inl ⟨rfl, rfl⟩)).sI hs3 (Or.inr (Or.inr ⟨rfl, rfl⟩))) e3
        (by rw [sI_at, if_neg (by omega), sI_at, if_neg (by omega), sI_at, if_pos ⟨rfl, rfl⟩]) (by rw [sI_at, if_pos ⟨rfl, rfl⟩, hz])
    exact ⟨by omega, by omega, h1, by omega, fun h6 => fin x2 (by rw [if_neg h6]), fun h6 => fin 0 (by rw [if_pos h6])⟩
  have q1' := q1
  unfold plOk at k86 q1'
  have k71 : x1 ≠ -1 → (x1 = 3 ∨ plOk (σ.2.1 125 0) (σ.2.1 125 6) x1 x2) → WP X (d + 2) (0, 0) MX11_plan 71 [(0, vP (some 125)), (1, vI x1), (2, vI x2)] [] σ Q := by
    intro hx hok
    unfold plOk at hok
    refine C_X11_plan_71 hs ⟨h1, fun h => k86 (by omega), fun h => c_isAsked hs h2 hq ⟨_, rfl, hs, fun h3 => C_X11_plan_84 hs (q1' hx ?_), fun h3 => k86 ?_⟩⟩
    · have h3 := of_decide_eq_false h3
      omega
    · have h3 := of_decide_eq_true h3
      omega
  unfold plOk at k71
  have k58 : x1 ≠ -1 → (x1 = 3 ∨ x1 = 2 ∨ plOk (σ.2.1 125 0) (σ.2.1 125 6) x1 x2) → WP X (d + 2) (0, 0) MX11_plan 58 [(0, vP (some 125)), (1, vI x1), (2, vI x2)] [] σ Q := by
    intro hx hok
    unfold plOk at hok
    refine C_X11_plan_58 hs ⟨h1, fun h => k71 hx (by omega), fun h => c_isOne hs h2 hg ⟨_, rfl, hs, fun h3 => C_X11_plan_84 hs (q1' hx ?_), fun h3 => k71 hx ?_⟩⟩
    · have h3 := of_decide_eq_false h3
      omega
    · have h3 := of_decide_eq_true h3
      omega
  unfold plOk at k58
  have k31 : x1 ≠ -1 → 0 ≤ x1 ∧ x1 ≤ 3 → (x1 = 0 ∨ 0 ≤ x2) → WP X (d + 2) (0, 0) MX11_plan 31 [(0, vP (some 125)), (1, vI x1), (2, vI x2)] [] σ Q := by
    intro hx hr h0
    refine C_X11_plan_31 hs ⟨h1, fun h => k58 hx (by omega), fun h => ⟨by omega, ?_⟩⟩
    rw [tdiv10 (by omega), tmod10 (by omega)]
    refine c_isAsked hs (by omega) hq ⟨_, rfl, hs, fun h3 => C_X11_plan_84 hs (q1' hx ?_), fun h3 => c_isOne hs (by omega) hg ⟨_, rfl, hs, fun h4 => C_X11_plan_84 hs (q1' hx ?_), fun h4 => k58 hx ?_⟩⟩
    · have h3 := of_decide_eq_false h3
      omega
    · have h4 := of_decide_eq_false h4
      omega
    · have h3 := of_decide_eq_true h3
      have h4 := of_decide_eq_true h4
      omega
  refine C_X11_plan hs ⟨h1, fun h => c_within hs h1 (by decide) (by decide) ⟨_, rfl, hs, fun h3 => C_X11_plan_29 hs (q1' h ?_), fun h3 => ⟨fun h4 => k31 h (of_decide_eq_true h3) (Or.inl ?_), fun h4 => ⟨h2, fun h5 => k31 h (of_decide_eq_true h3) (Or.inr h5), fun h5 => C_X11_plan_29 hs (q1' h ?_)⟩⟩⟩, q0⟩
  · have h3 := of_decide_eq_false h3
    omega
  · have h3 := of_decide_eq_true h3
    omega
  · omega
theorem px_off {a k : Nat} : (a = 148 ∨ a = 149 → (px a k).1 = 8) ∧ (a = 146 ∨ a = 147 → (px a k).1 = 6) := ⟨by rintro (rfl | rfl) <;> rfl, by rintro (rfl | rfl) <;> rfl⟩
theorem op_plan (hi : Inv σ) {x1 x2 : Int} (h1 : -2147483648 ≤ x1 ∧ x1 ≤ 2147483647) (h2 : -2147483648 ≤ x2 ∧ x2 ≤ 2147483647) : BothI X (d + 2) MX10_plan MX11_plan [vI x1, vI x2] σ Inv := by
  have hs := hi.1
  have hn := hi.now
  obtain ⟨b1, b2, b3, b4, b5, b6, b7, b8, b9, b10⟩ := hi.2.1.2.1
  have hc : σ.2.1 6 2 = σ.2.1 125 32 := hi.2.1.1.2.2.2.2.1.1
  obtain ⟨n, hk⟩ : ∃ n : Nat, σ.2.1 125 32 = (n : Int) := ⟨(σ.2.1 125 32).toNat, by omega⟩
  refine C_X10_plan hs ⟨h1, fun h => c_isPlanned hs h1 h2 (by omega) (by omega) (fun h5 => ⟨_, rfl, hs, fun h6 => by simp at h6, fun _ => ?_⟩) (fun h5 => ⟨_, rfl, hs, fun _ => ⟨_, rfl, hs, by decide, ?_⟩, fun h6 => by simp at h6⟩), fun h => C_X6_empty hs (isR3 (Or.inl rfl)) ?_⟩
  · rw [hn.1, hn.2.2.1] at h5
    refine c_add hs (isR3 (y := 1) (Or.inl rfl)) (n := n) (by rw [← hk, ← hc]) (show n ≤ 10 by omega) h1 h2 (by decide) (fun h6 => ⟨_, rfl, hs, _, rfl, hs, by decide, ?_⟩) (fun h6 σ1 hA u1 u2 _ u4 => ⟨_, rfl, hA.1, _, rfl, hA.1, ?_, ?_⟩)
    · have h6 : n = 10 := h6
      exact m_plan hs h1 h2 hk (by omega) hn.2.1 hn.2.2.2 (fun h4 => absurd h4 h) (fun _ h7 => absurd h5 h7) (fun _ _ => ⟨rfl, hi⟩) (by omega)
    · have h6 : n < 10 := h6
      omega
    · have h6 : n < 10 := h6
      have nA : ∀ a k, ¬ (a = 7 ∨ a = 6) → σ1.2.1 a k = σ.2.1 a k := fun a k q => hA.2.2 a k (by omega)
      have e0 : σ1.2.1 125 0 = σ.2.1 125 0 := nA 125 0 (by decide)
      have e6 : σ1.2.1 125 6 = σ.2.1 125 6 := nA 125 6 (by decide)
      refine m_plan hA.1 h1 h2 (n := n) (by rw [nA 125 32 (by decide), hk]) (by omega) (by rw [e0]; exact hn.2.1) (by rw [e6]; exact hn.2.2.2) (fun h4 => absurd h4 h) (fun _ h7 => by rw [e0, e6] at h7; exact absurd h5 h7) (fun _ h7 => by omega) (fun _ _ σ2 hB v1 v2 v3 => ⟨rfl, ?_⟩)
      have nB : ∀ a k, ¬ ((a = 125 ∧ k = 32) ∨ (a = 146 ∧ k = n) ∨ (a = 147 ∧ k = n)) → σ2.2.1 a k = σ1.2.1 a k := hB.2.2
      have nAB : ∀ a k, 125 ≤ a → ¬ ((a = 125 ∧ k = 32) ∨ (a = 146 ∧ k = n) ∨ (a = 147 ∧ k = n)) → σ2.2.1 a k = σ.2.1 a k := fun a k q q' => (nB a k q').trans (nA a k (by omega))
      refine hi.rows (fun a k => (a = 125 ∧ k = 32) ∨ (a = 146 ∧ k = n) ∨ (a = 147 ∧ k = n)) (D := fun a k => ((a = 7 ∧ 3 * n ≤ k ∧ k < 3 * n + 3) ∨ (a = 6 ∧ k = 2)) ∨ ((a = 125 ∧ k = 32) ∨ (a = 146 ∧ k = n) ∨ (a = 147 ∧ k = n))) (hA.tr hB (fun a k q => Or.inl q) (fun a k q => Or.inr q)) (fun a k q => by unfold DY FYx FYm; omega) (fun a k q q' => by omega) (fun a k q => by omega) (fun k q => by omega) (fun a k _ q hz => ?_) (fun a k hp hns q => ?_) ?_ ⟨by rw [v1]; omega, fun i hi => ?_⟩ ?_
      · rcases q with ⟨rfl, rfl⟩ | ⟨rfl, rfl⟩ | ⟨rfl, rfl⟩
        · rw [v1, ← u4]; exact nB 6 2 (by omega)
        · rw [v2, ← u1]; exact nB 7 (3 * k) (by omega)
        · rw [v3, if_neg (by rw [v2] at hz; exact hz rfl), ← u2]; exact nB 7 (3 * k + 1) (by omega)
      · have hl := px_lt hp
        have hr := px_row hp
        have hp' := hp
        have ho := px_off (a := a) (k := k)
        unfold vp at hp'
        rcases q with (⟨q1, q2, q3⟩ | ⟨q1, q2⟩) | q
        · have := hr.2.1 (by omega)
          omega
        · have := hr.2.2.2.2.1 (by omega)
          omega
        · omega
      · rw [nAB 125 28 (by decide) (by omega)]
        refine ⟨b8.1, fun i hi => ?_⟩
        rw [nAB 143 i (by decide) (by omega), nAB 144 i (by decide) (by omega), nAB 145 i (by decide) (by omega)]
        exact b8.2 i hi
      · rw [v1] at hi
        by_cases hz : i = n
        · rw [hz, v2, v3]
          unfold plOk at h5
          refine ⟨by omega, fun e => ?_, fun e => ?_, fun e => ?_⟩ <;> rw [if_neg (by omega)] <;> omega
        · rw [nAB 146 i (by decide) (by omega), nAB 147 i (by decide) (by omega)]
          exact b9.2 i (by omega)
      · rw [nAB 125 35 (by decide) (by omega)]
        refine ⟨b10.1, fun i hi => ?_⟩
        rw [nAB 148 i (by decide) (by omega), nAB 149 i (by decide) (by omega)]
        exact b10.2 i hi
  · rw [hn.1, hn.2.2.1] at h5
    exact m_plan hs h1 h2 hk (by omega) hn.2.1 hn.2.2.2 (fun h4 => absurd h4 h) (fun _ _ => ⟨rfl, hi⟩) (fun h7 => absurd h7 h5) (fun h7 => absurd h7 h5)
  · have hs1 : Sh (sI σ (1 + 5) 2 0) := sh_I hs (by decide) (hs.k (a := 6) rfl) (Or.inr (by decide))
    have hs2 : Sh (sI (sI σ (1 + 5) 2 0) 125 32 0) := sh_I hs1 (by decide) (hs1.k (a := 125) rfl) (Or.inl (by decide))
    refine ⟨_, rfl, hs1, _, rfl, hs1, by decide, C_X11_plan hs1 ⟨h1, fun h3 => absurd h h3, fun _ => ⟨rfl, ?_⟩⟩⟩
    have nAB : ∀ a k, ¬ ((a = 6 ∧ k = 2) ∨ (a = 125 ∧ k = 32)) → (sI (sI σ (1 + 5) 2 0) 125 32 0).2.1 a k = σ.2.1 a k := fun a k q => by rw [sI_at, if_neg (by omega), sI_at, if_neg (by omega)]
    have v1 : (sI (sI σ (1 + 5) 2 0) 125 32 0).2.1 125 32 = 0 := by rw [sI_at, if_pos ⟨rfl, rfl⟩]
    have v0 : (sI (sI σ (1 + 5) 2 0) 125 32 0).2.1 6 2 = 0 := by rw [sI_at, if_neg (by decide), sI_at, if_pos ⟨rfl, rfl⟩]
    have hA := ((Agk.rf hs).sI (D := fun a k => (a = 6 ∧ k = 2) ∨ (a = 125 ∧ k = 32)) hs1 (Or.inl ⟨rfl, rfl⟩)).sI hs2 (Or.inr ⟨rfl, rfl⟩)
    revert v1 v0 nAB hA
    generalize sI (sI σ (1 + 5) 2 0) 125 32 0 = σ2
    intro nAB v1 v0 hA
    refine hi.rows (fun a k => a = 125 ∧ k = 32) hA (fun a k q => by unfold DY FYx FYm; omega) (fun a k q q' => by omega) (fun a k q => by omega) (fun k q => by omega) (fun a k _ q _ => ?_) (fun a k hp hns q => ?_) ?_ ⟨by rw [v1]; omega, fun i hi => by rw [v1] at hi; omega⟩ ?_
    · obtain ⟨rfl, rfl⟩ := q
      rw [v1]; exact v0
    · have hl := px_lt hp
      have hr := px_row hp
      have := hr.2.2.2.2.1 (by omega)
      omega
    · rw [nAB 125 28 (by omega)]
      refine ⟨b8.1, fun i hi => ?_⟩
      rw [nAB 143 i (by omega), nAB 144 i (by omega), nAB 145 i (by omega)]
      exact b8.2 i hi
    · rw [nAB 125 35 (by omega)]
      refine ⟨b10.1, fun i hi => ?_⟩
      rw [nAB 148 i (by omega), nAB 149 i (by omega)]
      exact b10.2 i hi
end PLANSB
