/-! act, trace, taken, count -/
section ACTOP
variable {X : mX} {d : Nat} {σ : mS} {Q : Option mV → mS → Prop}
def actS (v i kk act x : Int) : Int × List Int := if act = 0 then lS v i kk x else if act = 1 then nS v i kk kk x else tS v i kk kk x
theorem actS_len (v i kk act x : Int) : (actS v i kk act x).2.length ≤ 20 := by
  unfold actS
  have h1 := lS_len v i kk x
  have h2 := nS_len v i kk kk x
  have h3 := t0S_len v i kk x
  have h4 := t0S_len v i kk (x - i)
  have h5 := nS_len v i kk kk 1
  unfold tS
  repeat' split
  all_goals (try simp only [List.length_cons, List.length_append, List.length_nil])
  all_goals omega
theorem gAt_some {y : Nat} (hy : isY y) {x : Int} {a : Nat} (h : gAt σ y x = some a) (hc : σ.2.1 y 5 ≤ 6) : isG a ∧ (0 ≤ x ∧ x < σ.2.1 y 5) ∧ a = y + 9 + 3 * x.toNat := by
  unfold gAt at h
  split at h
  · cases h
    exact ⟨isG_of hy (by omega) (by omega), by omega, rfl⟩
  · cases h
theorem gAt_none {y : Nat} {x : Int} (h : gAt σ y x = none) : ¬ (0 ≤ x ∧ x < σ.2.1 y 5) := by
  unfold gAt at h
  split at h
  · cases h
  · assumption
theorem qAt_some {y : Nat} (hy : isY y) {x : Int} {a : Nat} (h : qAt σ y x = some a) (hc : σ.2.1 y 6 ≤ 6) : isQ a ∧ (0 ≤ x ∧ x < σ.2.1 y 6) ∧ a = y + 11 + 3 * x.toNat := by
  unfold qAt at h
  split at h
  · cases h
    exact ⟨isQ_of hy (by omega) (by omega), by omega, rfl⟩
  · cases h
theorem qAt_none {y : Nat} {x : Int} (h : qAt σ y x = none) : ¬ (0 ≤ x ∧ x < σ.2.1 y 6) := by
  unfold qAt at h
  split at h
  · cases h
  · assumption
theorem x_act (hs : Sh σ) {x1 x2 x3 : Int} (h1 : -2147483648 ≤ x1 ∧ x1 ≤ 2147483647) (h2 : -2147483648 ≤ x2 ∧ x2 ≤ 2147483647) (hc : σ.2.1 1 5 ≤ 6) (hk : ∀ p : Nat, p < 6 → 0 ≤ σ.2.1 (10 + 3 * p) 0 ∧ σ.2.1 (10 + 3 * p) 0 ≤ 6)
    (q0 : ¬ (0 ≤ x1 ∧ x1 < σ.2.1 1 5) ∨ ¬ (0 ≤ x2 ∧ x2 ≤ 2) → Q (some (vI 0)) (sI σ 110 1 0))
    (q1 : 0 ≤ x1 ∧ x1 < σ.2.1 1 5 → 0 ≤ x2 ∧ x2 ≤ 2 → ∀ σ', Agk (fun a _ => a = 110 ∨ a = 111) σ σ' → σ'.2.1 110 1 = (actS (σ.2.1 (10 + 3 * x1.toNat) 1) x1 (σ.2.1 (10 + 3 * x1.toNat) 0) x2 x3).2.length → (∀ j, σ'.2.1 111 j = trP 0 (σ.2.1 111) (actS (σ.2.1 (10 + 3 * x1.toNat) 1) x1 (σ.2.1 (10 + 3 * x1.toNat) 0) x2 x3).2 j) → Q (some (vI (actS (σ.2.1 (10 + 3 * x1.toNat) 1) x1 (σ.2.1 (10 + 3 * x1.toNat) 0) x2 x3).1)) σ') :
    CALL X (d + 16) (0, 0) MX10_act [vP (some 0), vI x1, vI x2, vI x3] σ Q := by
  have hs1 : Sh (sI σ 110 1 0) := sh_I hs (by decide) (hs.k (a := 110) rfl) (Or.inl (by decide))
  have e15 : (sI σ 110 1 0).2.1 1 5 = σ.2.1 1 5 := by rw [sI_at, if_neg (by omega)]
  refine C_X10_act hs (C_X0_forget hs ⟨rfl, hs1, c_guardAt hs1 (Or.inl rfl) h1 (by omega) ⟨_, rfl, hs1, fun hn => q0 (Or.inl (by rw [← e15]; exact gAt_none hn)), fun a ha => ?_⟩⟩)
  obtain ⟨hg, hr, rfl⟩ := gAt_some (Or.inl rfl) ha (by omega)
  rw [e15] at hr
  refine ⟨hg, h2, fun h => q0 (Or.inr (by omega)), fun h => ⟨fun h3 => ?_, fun h3 => q0 (Or.inr (by omega))⟩⟩
  have q1 := q1 hr (by omega)
  have hk1 := hk x1.toNat (by omega)
  have eg : ∀ k, (sI σ 110 1 0).2.1 (1 + 9 + 3 * x1.toNat) k = σ.2.1 (10 + 3 * x1.toNat) k := fun k => by rw [sI_at, if_neg (by omega)]
  have eg2 : (sI (sI σ 110 1 0) 110 2 (σ.2.1 (10 + 3 * x1.toNat) 0)).2.1 (1 + 9 + 3 * x1.toNat) 1 = σ.2.1 (10 + 3 * x1.toNat) 1 := by rw [sI_at, if_neg (by omega), eg]
  have hs2 : Sh (sI (sI σ 110 1 0) 110 2 (σ.2.1 (10 + 3 * x1.toNat) 0)) := sh_I hs1 (by omega) (hs1.k (a := 110) rfl) (Or.inl (by decide))
  have hs3 : Sh (sI (sI (sI σ 110 1 0) 110 2 (σ.2.1 (10 + 3 * x1.toNat) 0)) 110 3 (σ.2.1 (10 + 3 * x1.toNat) 1)) := sh_I hs2 (hs.2.2.1 _ _) (hs2.k (a := 110) rfl) (Or.inl (by decide))
  have hs4 : Sh (sI (sI (sI (sI σ 110 1 0) 110 2 (σ.2.1 (10 + 3 * x1.toNat) 0)) 110 3 (σ.2.1 (10 + 3 * x1.toNat) 1)) 110 4 x1) := sh_I hs3 h1 (hs3.k (a := 110) rfl) (Or.inl (by decide))
  refine C_X0_start hs1 hg ⟨h1, ?_⟩
  rw [eg, eg2]
  have hA : Agk (fun a _ => a = 110 ∨ a = 111) σ (sI (sI (sI (sI σ 110 1 0) 110 2 (σ.2.1 (10 + 3 * x1.toNat) 0)) 110 3 (σ.2.1 (10 + 3 * x1.toNat) 1)) 110 4 x1) := ((((Agk.rf hs).sI hs1 (Or.inl rfl)).sI hs2 (Or.inl rfl)).sI hs3 (Or.inl rfl)).sI hs4 (Or.inl rfl)
  have f1 : (sI (sI (sI (sI σ 110 1 0) 110 2 (σ.2.1 (10 + 3 * x1.toNat) 0)) 110 3 (σ.2.1 (10 + 3 * x1.toNat) 1)) 110 4 x1).2.1 110 1 = 0 := by simp [sI_at]
  have f2 : (sI (sI (sI (sI σ 110 1 0) 110 2 (σ.2.1 (10 + 3 * x1.toNat) 0)) 110 3 (σ.2.1 (10 + 3 * x1.toNat) 1)) 110 4 x1).2.1 110 2 = σ.2.1 (10 + 3 * x1.toNat) 0 := by simp [sI_at]
  have f3 : (sI (sI (sI (sI σ 110 1 0) 110 2 (σ.2.1 (10 + 3 * x1.toNat) 0)) 110 3 (σ.2.1 (10 + 3 * x1.toNat) 1)) 110 4 x1).2.1 110 3 = σ.2.1 (10 + 3 * x1.toNat) 1 := by simp [sI_at]
  have f4 : (sI (sI (sI (sI σ 110 1 0) 110 2 (σ.2.1 (10 + 3 * x1.toNat) 0)) 110 3 (σ.2.1 (10 + 3 * x1.toNat) 1)) 110 4 x1).2.1 110 4 = x1 := by simp [sI_at]
  have f5 : (sI (sI (sI (sI σ 110 1 0) 110 2 (σ.2.1 (10 + 3 * x1.toNat) 0)) 110 3 (σ.2.1 (10 + 3 * x1.toNat) 1)) 110 4 x1).2.1 111 = σ.2.1 111 := funext fun j => by simp [sI_at]
  revert hs4 hA f1 f2 f3 f4 f5
  generalize sI (sI (sI (sI σ 110 1 0) 110 2 (σ.2.1 (10 + 3 * x1.toNat) 0)) 110 3 (σ.2.1 (10 + 3 * x1.toNat) 1)) 110 4 x1 = σ4
  intro hs4 hA f1 f2 f3 f4 f5
  rw [f2]
  have fin : ∀ (z : Int) (bs : List Int), actS (σ.2.1 (10 + 3 * x1.toNat) 1) x1 (σ.2.1 (10 + 3 * x1.toNat) 0) x2 x3 = (z, bs) → ∀ σ', Pushed 110 1 111 bs σ4 σ' → Q (some (vI z)) σ' := by
    intro z bs e σ' hp
    rw [e] at q1
    refine q1 σ' (hA.tr hp.agk (fun _ _ h => h) (fun a k h => by omega)) ?_ (fun j => ?_)
    · rw [hp.2.2.2.1, f1]; simp
    · rw [hp.2.2.2.2, f1, f5]
  obtain rfl | rfl | rfl : x2 = 0 ∨ x2 = 1 ∨ x2 = 2 := by omega
  · refine x_L hs4 hk1 (by decide) (by omega) (fun σ' hp => ⟨_, rfl, hp.1, _, rfl, hp.1, ?_⟩)
    rw [f3, f4] at hp ⊢
    exact fin _ _ rfl σ' hp
  · refine x_N hs4 hk1 (by omega) (by decide) (by omega) (fun σ' hp => ⟨_, rfl, hp.1, _, rfl, hp.1, ?_⟩)
    rw [f2, f3, f4] at hp ⊢
    exact fin _ _ rfl σ' hp
  · refine x_T hs4 hk1 (by omega) (by decide) (by omega) (fun σ' hp => ⟨_, rfl, hp.1, _, rfl, hp.1, ?_⟩)
    rw [f2, f3, f4] at hp ⊢
    exact fin _ _ rfl σ' hp
theorem m_act (hs : Sh σ) {x1 x2 x3 : Int} (h1 : -2147483648 ≤ x1 ∧ x1 ≤ 2147483647) (h2 : -2147483648 ≤ x2 ∧ x2 ≤ 2147483647) (hc : 0 ≤ σ.2.1 125 0 ∧ σ.2.1 125 0 ≤ 6) (hk : ∀ p : Nat, p < 6 → 0 ≤ σ.2.1 126 p ∧ σ.2.1 126 p ≤ 6)
    (q0 : ¬ (0 ≤ x1 ∧ x1 < σ.2.1 125 0) ∨ ¬ (0 ≤ x2 ∧ x2 ≤ 2) → Q (some (vI 0)) (sI σ 125 38 0))
    (q1 : 0 ≤ x1 ∧ x1 < σ.2.1 125 0 → 0 ≤ x2 ∧ x2 ≤ 2 → ∀ σ', Pushed 125 38 150 (actS (σ.2.1 127 x1.toNat) x1 (σ.2.1 126 x1.toNat) x2 x3).2 (sI σ 125 38 0) σ' → Q (some (vI (actS (σ.2.1 127 x1.toNat) x1 (σ.2.1 126 x1.toNat) x2 x3).1)) σ') :
    CALL X (d + 13) (0, 0) MX11_act [vP (some 125), vI x1, vI x2, vI x3] σ Q := by
  have hs1 : Sh (sI σ 125 38 0) := sh_I hs (by decide) (hs.k (a := 125) rfl) (Or.inl (by decide))
  have e0 : (sI σ 125 38 0).2.1 125 0 = σ.2.1 125 0 := by rw [sI_at, if_neg (by omega)]
  have e1 : (sI σ 125 38 0).2.1 125 38 = 0 := by rw [sI_at, if_pos ⟨rfl, rfl⟩]
  have e2 : ∀ a k, a ≠ 125 → (sI σ 125 38 0).2.1 a k = σ.2.1 a k := fun a k h => by rw [sI_at, if_neg (fun q => h q.1)]
  refine C_X11_act hs (c_isOne hs1 h1 (by omega) ⟨_, rfl, hs1, fun h => q0 (Or.inl ?_), fun h => c_within hs1 h2 (by decide) (by decide) ⟨_, rfl, hs1, fun h4 => q0 (Or.inr ?_), fun h4 => ?_⟩⟩)
  · rw [decide_eq_false_iff_not, e0] at h
    exact h
  · exact of_decide_eq_false h4
  rw [decide_eq_true_eq, e0] at h
  rw [decide_eq_true_eq] at h4
  have q1 := q1 h h4
  have hk1 := hk x1.toNat (by omega)
  rw [e2 126 _ (by decide)]
  have b0 : 0 ≤ (sI σ 125 38 0).2.1 125 38 ∧ (sI σ 125 38 0).2.1 125 38 ≤ 500 := by omega
  have b1 : 0 ≤ (sI σ 125 38 0).2.1 126 x1.toNat ∧ (sI σ 125 38 0).2.1 126 x1.toNat ≤ 6 := by rw [e2 126 _ (by decide)]; exact hk1
  refine ⟨by omega, by omega, h2, fun h5 => ⟨fun h6 => ?_, fun h6 => ?_⟩, fun h5 => ?_⟩
  · obtain rfl : x2 = 2 := by omega
    refine m_T hs1 (by omega) hk1 b1 (by omega) (fun σ' hp => ⟨_, rfl, hp.1, ?_⟩)
    rw [e2 126 _ (by decide), e2 127 _ (by decide)] at hp ⊢
    exact q1 σ' hp
  · subst h6
    refine m_N hs1 (by omega) hk1 b1 (by omega) (fun σ' hp => ⟨_, rfl, hp.1, ?_⟩)
    rw [e2 126 _ (by decide), e2 127 _ (by decide)] at hp ⊢
    exact q1 σ' hp
  · subst h5
    refine m_L hs1 (by omega) hk1 (by omega) (fun σ' hp => ⟨_, rfl, hp.1, ?_⟩)
    rw [e2 127 _ (by decide)] at hp ⊢
    exact q1 σ' hp
abbrev DF : Nat → Nat → Prop := fun a k => a = 110 ∨ a = 111 ∨ a = 150 ∨ (a = 125 ∧ k = 38)
theorem Inv.df {σ' : mS} (hi : Inv σ) (ha : Agk DF σ σ') (hF : InvF σ') : Inv σ' :=
  ⟨ha.1, hi.2.1.fr ha (fun a k h => by unfold FYm FYx; unfold DF at h; omega), hi.2.2.1.fr ha (fun a k h => by unfold FYx; unfold DF at h; omega), hi.2.2.2.1.fr ha (fun a k h => by unfold DF at h; omega), hi.2.2.2.2.1.fr ha (fun a k h => by unfold DF at h; omega), hi.2.2.2.2.2.1.fr ha (fun a k h => by unfold DF at h; omega), hF⟩
/-- the counts of the yard that stands now -/
theorem Inv.now (hi : Inv σ) : σ.2.1 1 5 = σ.2.1 125 0 ∧ (0 ≤ σ.2.1 125 0 ∧ σ.2.1 125 0 ≤ 6) ∧ σ.2.1 1 6 = σ.2.1 125 6 ∧ (0 ≤ σ.2.1 125 6 ∧ σ.2.1 125 6 ≤ 6) := ⟨hi.2.1.1.1.1, hi.2.1.2.1.1, hi.2.1.1.1.2.1, hi.2.1.2.1.2.1⟩
theorem Inv.g (hi : Inv σ) {p : Nat} (hp : p < 6) : σ.2.1 (10 + 3 * p) 0 = σ.2.1 126 p ∧ σ.2.1 (10 + 3 * p) 1 = σ.2.1 127 p ∧ σ.2.1 (10 + 3 * p) 2 = σ.2.1 128 p ∧ σ.2.1 (10 + 3 * p) 3 = σ.2.1 129 p ∧ ∀ j, j < 4 → σ.2.1 (10 + 3 * p + 1) j = σ.2.1 130 (4 * p + j) := by
  have := hi.2.1.1.2.1 p hp
  rw [show (1 + 9 + 3 * p) = 10 + 3 * p by omega] at this
  exact this
theorem Inv.gr (hi : Inv σ) {p : Nat} (hp : p < 6) : (0 ≤ σ.2.1 126 p ∧ σ.2.1 126 p ≤ 6) ∧ (0 ≤ σ.2.1 127 p ∧ σ.2.1 127 p ≤ 9) ∧ (0 ≤ σ.2.1 128 p ∧ σ.2.1 128 p < 4096) ∧ (0 ≤ σ.2.1 129 p ∧ σ.2.1 129 p ≤ 99) := hi.2.1.2.1.2.2.2.2.1 p hp
theorem op_act (hi : Inv σ) {x1 x2 x3 : Int} (h1 : -2147483648 ≤ x1 ∧ x1 ≤ 2147483647) (h2 : -2147483648 ≤ x2 ∧ x2 ≤ 2147483647) : BothI X (d + 16) MX10_act MX11_act [vI x1, vI x2, vI x3] σ Inv := by
  have hn := hi.now
  have hs := hi.1
  have hs1 : Sh (sI σ 110 1 0) := sh_I hs (by decide) (hs.k (a := 110) rfl) (Or.inl (by decide))
  have e1 : ∀ a k, a ≠ 110 → (sI σ 110 1 0).2.1 a k = σ.2.1 a k := fun a k h => by rw [sI_at, if_neg (fun q => h q.1)]
  refine CALL.nrm (Q' := fun v σ1 => ∃ z : Int, v = some (vI z) ∧ Sh σ1 ∧ CALL X (d + 16) (0, 0) MX11_act [vP (some 125), vI x1, vI x2, vI x3] σ1 (fun v' σ2 => v' = some (vI (wI z)) ∧ Inv σ2)) ?_ ?_
  · refine x_act hs h1 h2 (by omega) (fun p hp => by rw [(hi.g hp).1]; exact (hi.gr hp).1) (fun h => ⟨0, rfl, hs1, ?_⟩) (fun h3 h4 σ1 hA b1 b2 => ⟨_, rfl, hA.1, ?_⟩)
    · have hs2 : Sh (sI (sI σ 110 1 0) 125 38 0) := sh_I hs1 (by decide) (hs1.k (a := 125) rfl) (Or.inl (by decide))
      refine m_act hs1 h1 h2 (by rw [e1 _ _ (by decide)]; omega) (fun p hp => by rw [e1 _ _ (by decide)]; exact (hi.gr hp).1) (fun _ => ⟨by rw [wI_id (by decide)], ?_⟩) (fun k1 k2 => ?_)
      · refine hi.df (((Agk.rf hs).sI hs1 (Or.inl rfl)).sI hs2 (Or.inr (Or.inr (Or.inr ⟨rfl, rfl⟩)))) ⟨?_, ?_, fun i _ hl => ?_⟩
        · simp [sI_at]
        · simp [sI_at]
        · simp [sI_at] at hl
          omega
      · rw [e1 _ _ (by decide)] at k1
        omega
    · have g := hi.g (p := x1.toNat) (by omega)
      have nA : ∀ a k, ¬ (a = 110 ∨ a = 111) → σ1.2.1 a k = σ.2.1 a k := hA.2.2
      rw [g.1, g.2.1] at b1 b2
      have hlen := actS_len (σ.2.1 127 x1.toNat) x1 (σ.2.1 126 x1.toNat) x2 x3
      refine CALL.nrm (Q' := fun v' σ2 => v' = some (vI (actS (σ.2.1 127 x1.toNat) x1 (σ.2.1 126 x1.toNat) x2 x3).1) ∧ Inv σ2) (m_act hA.1 h1 h2 (by rw [nA _ _ (by decide)]; omega) (fun p hp => by rw [nA _ _ (by omega)]; exact (hi.gr hp).1) (fun k => ?_) (fun k1 k2 σ2 hp => ?_)) (fun v' σ2 ⟨e, h⟩ => ⟨_, e, by rw [g.1, g.2.1], h⟩)
      · rw [nA _ _ (by decide)] at k
        omega
      · rw [nA 126 _ (by omega), nA 127 _ (by omega)] at hp ⊢
        have hs3 : Sh (sI σ1 125 38 0) := sh_I hA.1 (by decide) (hA.1.k (a := 125) rfl) (Or.inl (by decide))
        refine ⟨rfl, hi.df ((hA.mono (fun a k h => by omega)).tr (((Agk.rf hA.1).sI (D := DF) hs3 (Or.inr (Or.inr (Or.inr ⟨rfl, rfl⟩)))).tr hp.agk (fun _ _ h => h) (fun a k h => by omega)) (fun _ _ h => h) (fun _ _ h => h)) ⟨?_, ?_, fun i i20 hl => ?_⟩⟩
        · rw [hp.2.2.2.1, sI_at, if_pos ⟨rfl, rfl⟩]
          omega
        · rw [hp.2.1 110 1 (by decide) (by decide), sI_at, if_neg (by decide), b1, hp.2.2.2.1, sI_at, if_pos ⟨rfl, rfl⟩]
          omega
        · rw [hp.2.2.2.1, sI_at, if_pos ⟨rfl, rfl⟩] at hl
          rw [hp.2.1 111 i (by decide) (by omega), sI_at, if_neg (by omega), b2, hp.2.2.2.2, sI_at, if_pos ⟨rfl, rfl⟩]
          exact trP_eq _ 0 _ _ (by omega) (fun j hj hl => by omega) i i20 (by omega)
  · rintro v σ' ⟨z, rfl, h3, h4⟩
    exact ⟨z, rfl, _, rfl, h3, wI_r z, h4⟩
theorem op_trace (hi : Inv σ) {x1 : Int} (h1 : -2147483648 ≤ x1 ∧ x1 ≤ 2147483647) : BothI X (d + 2) MX10_trace MX11_trace [vI x1] σ Inv := by
  have hs := hi.1
  obtain ⟨f1, f2, f3⟩ := hi.2.2.2.2.2.2
  have mm : ∀ z : Int, ((¬ (0 ≤ x1 ∧ x1 < σ.2.1 125 38 ∧ x1 < 20) → z = -1) ∧ (0 ≤ x1 ∧ x1 < σ.2.1 125 38 ∧ x1 < 20 → z = σ.2.1 150 x1.toNat)) → CALL X (d + 2) (0, 0) MX11_trace [vP (some 125), vI x1] σ (fun v' σ2 => v' = some (vI z) ∧ Inv σ2) := by
    intro z hz
    refine C_X11_trace hs (c_within hs h1 (by decide) (by omega) ⟨_, rfl, hs, fun h => ⟨?_, hi⟩, fun h => ⟨?_, ?_, ?_, hi⟩⟩)
    · rw [decide_eq_false_iff_not] at h
      rw [hz.1 (by omega)]
    · rw [decide_eq_true_eq] at h
      omega
    · rw [decide_eq_true_eq] at h
      omega
    · rw [decide_eq_true_eq] at h
      rw [hz.2 (by omega)]
  refine C_X10_trace hs (C_X0_bodyAt hs ⟨h1, fun h => ⟨_, rfl, hs, _, rfl, hs, by decide, mm _ ⟨fun _ => rfl, fun _ => by omega⟩⟩, fun h => ⟨fun h2 => ⟨_, rfl, hs, _, rfl, hs, by decide, mm _ ⟨fun _ => rfl, fun _ => by omega⟩⟩, fun h2 => ⟨fun h3 => ⟨by omega, _, rfl, hs, _, rfl, hs, hs.2.2.1 _ _, mm _ ⟨fun _ => by omega, fun _ => f3 _ (by omega) (by omega)⟩⟩, fun h3 => ⟨_, rfl, hs, _, rfl, hs, by decide, mm _ ⟨fun _ => rfl, fun _ => by omega⟩⟩⟩⟩⟩)
theorem op_count (hi : Inv σ) {x1 : Int} (h1 : -2147483648 ≤ x1 ∧ x1 ≤ 2147483647) : BothI X d MX10_count MX11_count [vI x1] σ Inv := by
  have hs := hi.1
  have hn := hi.now
  refine C_X10_count hs ⟨h1, ?_, ?_, ?_, ?_, ?_, ?_, ?_, ?_, ?_⟩ <;> intro h <;> refine ⟨_, rfl, hs, ?_, ?_⟩
  any_goals exact hs.2.2.1 _ _
  any_goals decide
  all_goals refine C_X11_count hs ⟨h1, ?_, ?_, ?_, ?_, ?_, ?_, ?_, ?_, ?_⟩ <;> intro h5 <;> first | (exfalso; omega) | refine ⟨?_, hi⟩
  · rw [hn.1]
  · rw [hn.2.2.1]
  · rw [hi.2.2.2.1.2.1]
  · exact congrArg (fun z => some (vI z)) hi.2.1.1.2.2.2.1.1.symm
  · exact congrArg (fun z => some (vI z)) hi.2.1.1.2.2.2.2.1.1.symm
  · exact congrArg (fun z => some (vI z)) hi.2.1.1.2.2.2.2.2.1.symm
  · rw [hi.2.2.2.2.1.2.1]
  · rw [hi.2.2.2.2.2.2.2.1]
  · rfl
end ACTOP
