/-! ACTS: nods and tells of the class -/
section ACTSB
variable {X : mX} {d : Nat} {σ : mS} {Q : Option mV → mS → Prop}
theorem lS_len (v i k x : Int) : (lS v i k x).2.length ≤ 2 := by
  unfold lS
  repeat' split
  all_goals simp
theorem n0S_len (v i kk x : Int) : (n0S v i kk x).2.length ≤ 3 := by
  have := lS_len v i kk x
  unfold n0S
  simp only [List.length_cons]
  omega
theorem nS_len (v i kk k x : Int) : (nS v i kk k x).2.length ≤ 5 := by
  have h1 := n0S_len v i kk x
  have h2 := n0S_len v i kk (x + 1)
  unfold nS
  repeat' split
  all_goals (try simp only [List.length_cons, List.length_append, List.length_nil])
  all_goals omega
theorem t0S_len (v i kk x : Int) : (t0S v i kk x).2.length ≤ 6 := by
  have := nS_len v i kk kk x
  unfold t0S
  simp only [List.length_cons]
  omega
theorem x_N0 (hs : Sh σ) {k x dep : Int} (hk : k = 0 ∨ k = 2 ∨ k = 3 ∨ k = 5) (hself : 0 ≤ σ.2.1 110 2 ∧ σ.2.1 110 2 ≤ 6) (hd : 0 ≤ dep ∧ dep ≤ 17) (hn : 0 ≤ σ.2.1 110 1 ∧ σ.2.1 110 1 ≤ 700) (hQ : ∀ σ', Pushed 110 1 111 (n0S (σ.2.1 110 3) (σ.2.1 110 4) (σ.2.1 110 2) x).2 σ σ' → Q (some (vI (n0S (σ.2.1 110 3) (σ.2.1 110 4) (σ.2.1 110 2) x).1)) σ') : CALL X (d + 6) (0, 0) MX0_perform [vP (some 110), vI k, vI 1, vI x, vI dep] σ Q := by
  refine x_perf hs 11 (by omega) (by decide) (by rcases hk with rfl | rfl | rfl | rfl <;> decide) (by decide) (by omega) (by omega) (fun σ1 hp => ?_)
  have hpn := hp.n
  refine C_X0_run hp.1 ⟨by decide, ?_, ?_, ?_, ?_, ?_, ?_, ?_, ?_, ?_, ?_, ?_, ?_⟩ <;> intro hb <;> try (exfalso; omega)
  refine x_L hp.1 (by omega) (by omega) (by rw [hpn.1]; simp; omega) (fun σ2 hp2 => ⟨_, rfl, hp2.1, _, rfl, hp2.1, ?_⟩)
  rw [hpn.2.1, hpn.2.2.1, hpn.2.2.2] at hp2 ⊢
  rw [hp2.n.2.2.1, hpn.2.2.1]
  exact hQ σ2 (hp.tr hp2)
theorem x_N (hs : Sh σ) {k x dep : Int} (hk : 0 ≤ k ∧ k ≤ 6) (hself : 0 ≤ σ.2.1 110 2 ∧ σ.2.1 110 2 ≤ 6) (hd : 0 ≤ dep ∧ dep ≤ 15) (hn : 0 ≤ σ.2.1 110 1 ∧ σ.2.1 110 1 ≤ 600) (hQ : ∀ σ', Pushed 110 1 111 (nS (σ.2.1 110 3) (σ.2.1 110 4) (σ.2.1 110 2) k x).2 σ σ' → Q (some (vI (nS (σ.2.1 110 3) (σ.2.1 110 4) (σ.2.1 110 2) k x).1)) σ') : CALL X (d + 10) (0, 0) MX0_perform [vP (some 110), vI k, vI 1, vI x, vI dep] σ Q := by
  have x1 : ∀ {d : Nat} {σ : mS} {Q : Option mV → mS → Prop} (hs : Sh σ) {x dep : Int} (hself : 0 ≤ σ.2.1 110 2 ∧ σ.2.1 110 2 ≤ 6) (hd : 0 ≤ dep ∧ dep ≤ 16) (hn : 0 ≤ σ.2.1 110 1 ∧ σ.2.1 110 1 ≤ 650) (hQ : ∀ σ', Pushed 110 1 111 (20 :: (n0S (σ.2.1 110 3) (σ.2.1 110 4) (σ.2.1 110 2) x).2) σ σ' → Q (some (vI (bxor (n0S (σ.2.1 110 3) (σ.2.1 110 4) (σ.2.1 110 2) x).1 6))) σ'), CALL X (d + 8) (0, 0) MX0_perform [vP (some 110), vI 1, vI 1, vI x, vI dep] σ Q := by
    intro d σ Q hs x dep hself hd hn hQ
    refine x_perf hs 20 (by omega) (by decide) (by decide) (by decide) (by omega) (by omega) (fun σ1 hp => ?_)
    have hpn := hp.n
    refine C_X0_run hp.1 ⟨by decide, ?_, ?_, ?_, ?_, ?_, ?_, ?_, ?_, ?_, ?_, ?_, ?_⟩ <;> intro hb <;> try (exfalso; omega)
    refine x_N0 hp.1 (by decide) (by omega) (by omega) (by rw [hpn.1]; simp; omega) (fun σ2 hp2 => ⟨_, rfl, hp2.1, _, rfl, hp2.1, ?_⟩)
    rw [hpn.2.1, hpn.2.2.1, hpn.2.2.2] at hp2 ⊢
    exact hQ σ2 (hp.tr hp2)
  unfold nS at hQ
  rcases kinds7 hk with rfl | rfl | rfl | rfl | rfl | rfl | rfl
  · exact x_N0 hs (by decide) hself (by omega) (by omega) hQ
  · exact x1 hs hself (by omega) (by omega) hQ
  · exact x_N0 hs (by decide) hself (by omega) (by omega) hQ
  · exact x_N0 hs (by decide) hself (by omega) (by omega) hQ
  · refine x_perf hs 51 (by omega) (by decide) (by decide) (by decide) (by omega) (by omega) (fun σ1 hp => ?_)
    have hpn := hp.n
    refine C_X0_run hp.1 ⟨by decide, ?_, ?_, ?_, ?_, ?_, ?_, ?_, ?_, ?_, ?_, ?_, ?_⟩ <;> intro hb <;> try (exfalso; omega)
    refine x1 hp.1 (by omega) (by omega) (by rw [hpn.1]; simp; omega) (fun σ2 hp2 => ⟨_, rfl, hp2.1, _, rfl, hp2.1, ?_⟩)
    rw [hpn.2.1, hpn.2.2.1, hpn.2.2.2] at hp2 ⊢
    exact hQ σ2 (hp.tr hp2)
  · exact x_N0 hs (by decide) hself (by omega) (by omega) hQ
  · refine x_perf hs 70 (by omega) (by decide) (by decide) (by decide) (by omega) (by omega) (fun σ1 hp => ?_)
    have hpn := hp.n
    refine C_X0_run hp.1 ⟨by decide, ?_, ?_, ?_, ?_, ?_, ?_, ?_, ?_, ?_, ?_, ?_, ?_⟩ <;> intro hb <;> try (exfalso; omega)
    refine x_N0 hp.1 (by decide) (by omega) (by omega) (by rw [hpn.1]; simp; omega) (fun σ2 hp2 => ⟨_, rfl, hp2.1, ?_⟩)
    rw [hpn.2.1, hpn.2.2.1, hpn.2.2.2] at hp2 ⊢
    have hp2n := hp2.n
    have hlen := n0S_len (σ.2.1 110 3) (σ.2.1 110 4) (σ.2.1 110 2) x
    have h1 := hpn.1
    simp only [List.length_cons, List.length_nil] at h1
    refine x_L10 hp2.1 (by decide) (by omega) (by rw [hp2n.1]; omega) (fun σ3 hp3 => ⟨_, rfl, hp3.1, _, rfl, hp3.1, ?_⟩)
    rw [hp2n.2.2.2, hpn.2.2.2]
    exact hQ σ3 (hp.tr (hp2.tr hp3))
theorem x_T (hs : Sh σ) {k x dep : Int} (hk : 0 ≤ k ∧ k ≤ 6) (hself : 0 ≤ σ.2.1 110 2 ∧ σ.2.1 110 2 ≤ 6) (hd : 0 ≤ dep ∧ dep ≤ 10) (hn : 0 ≤ σ.2.1 110 1 ∧ σ.2.1 110 1 ≤ 500) (hQ : ∀ σ', Pushed 110 1 111 (tS (σ.2.1 110 3) (σ.2.1 110 4) (σ.2.1 110 2) k x).2 σ σ' → Q (some (vI (tS (σ.2.1 110 3) (σ.2.1 110 4) (σ.2.1 110 2) k x).1)) σ') : CALL X (d + 14) (0, 0) MX0_perform [vP (some 110), vI k, vI 2, vI x, vI dep] σ Q := by
  have x0 : ∀ {d : Nat} {σ : mS} {Q : Option mV → mS → Prop} (hs : Sh σ) {k x dep : Int} (hk : k = 0 ∨ k = 1 ∨ k = 2 ∨ k = 4) (hself : 0 ≤ σ.2.1 110 2 ∧ σ.2.1 110 2 ≤ 6) (hd : 0 ≤ dep ∧ dep ≤ 12) (hn : 0 ≤ σ.2.1 110 1 ∧ σ.2.1 110 1 ≤ 550) (hQ : ∀ σ', Pushed 110 1 111 (t0S (σ.2.1 110 3) (σ.2.1 110 4) (σ.2.1 110 2) x).2 σ σ' → Q (some (vI (t0S (σ.2.1 110 3) (σ.2.1 110 4) (σ.2.1 110 2) x).1)) σ'), CALL X (d + 12) (0, 0) MX0_perform [vP (some 110), vI k, vI 2, vI x, vI dep] σ Q := by
    intro d σ Q hs k x dep hk hself hd hn hQ
    refine x_perf hs 12 (by omega) (by decide) (by rcases hk with rfl | rfl | rfl | rfl <;> decide) (by decide) (by omega) (by omega) (fun σ1 hp => ?_)
    have hpn := hp.n
    refine C_X0_run hp.1 ⟨by decide, ?_, ?_, ?_, ?_, ?_, ?_, ?_, ?_, ?_, ?_, ?_, ?_⟩ <;> intro hb <;> try (exfalso; omega)
    refine x_N hp.1 (by omega) (by omega) (by omega) (by rw [hpn.1]; simp; omega) (fun σ2 hp2 => ⟨_, rfl, hp2.1, _, rfl, hp2.1, ?_⟩)
    rw [hpn.2.1, hpn.2.2.1, hpn.2.2.2] at hp2 ⊢
    exact hQ σ2 (hp.tr hp2)
  have x40 : ∀ {k : Int}, k = 3 ∨ k = 6 → (∀ σ', Pushed 110 1 111 (40 :: ((t0S (σ.2.1 110 3) (σ.2.1 110 4) (σ.2.1 110 2) x).2 ++ (nS (σ.2.1 110 3) (σ.2.1 110 4) (σ.2.1 110 2) (σ.2.1 110 2) 1).2)) σ σ' → Q (some (vI ((t0S (σ.2.1 110 3) (σ.2.1 110 4) (σ.2.1 110 2) x).1 + (nS (σ.2.1 110 3) (σ.2.1 110 4) (σ.2.1 110 2) (σ.2.1 110 2) 1).1))) σ') → CALL X (d + 14) (0, 0) MX0_perform [vP (some 110), vI k, vI 2, vI x, vI dep] σ Q := by
    intro k hk hQ
    refine x_perf hs 40 (by omega) (by decide) (by rcases hk with rfl | rfl <;> decide) (by decide) (by omega) (by omega) (fun σ1 hp => ?_)
    have hpn := hp.n
    refine C_X0_run hp.1 ⟨by decide, ?_, ?_, ?_, ?_, ?_, ?_, ?_, ?_, ?_, ?_, ?_, ?_⟩ <;> intro hb <;> try (exfalso; omega)
    refine x0 hp.1 (by decide) (by omega) (by omega) (by rw [hpn.1]; simp; omega) (fun σ2 hp2 => ⟨_, rfl, hp2.1, ?_⟩)
    rw [hpn.2.1, hpn.2.2.1, hpn.2.2.2] at hp2 ⊢
    have hp2n := hp2.n
    have hlen := t0S_len (σ.2.1 110 3) (σ.2.1 110 4) (σ.2.1 110 2) x
    have h1 := hpn.1
    simp only [List.length_cons, List.length_nil] at h1
    refine x_N hp2.1 (by omega) (by omega) (by omega) (by rw [hp2n.1]; omega) (fun σ3 hp3 => ⟨_, rfl, hp3.1, _, rfl, hp3.1, ?_⟩)
    rw [hp2n.2.1, hp2n.2.2.1, hp2n.2.2.2, hpn.2.1, hpn.2.2.1, hpn.2.2.2] at hp3 ⊢
    exact hQ σ3 (hp.tr (hp2.tr hp3))
  unfold tS at hQ
  rcases kinds7 hk with rfl | rfl | rfl | rfl | rfl | rfl | rfl
  · exact x0 hs (by decide) hself (by omega) (by omega) hQ
  · exact x0 hs (by decide) hself (by omega) (by omega) hQ
  · exact x0 hs (by decide) hself (by omega) (by omega) hQ
  · exact x40 (by decide) hQ
  · exact x0 hs (by decide) hself (by omega) (by omega) hQ
  · refine x_perf hs 60 (by omega) (by decide) (by decide) (by decide) (by omega) (by omega) (fun σ1 hp => ?_)
    have hpn := hp.n
    refine C_X0_run hp.1 ⟨by decide, ?_, ?_, ?_, ?_, ?_, ?_, ?_, ?_, ?_, ?_, ?_, ?_⟩ <;> intro hb <;> try (exfalso; omega)
    refine x0 hp.1 (by decide) (by omega) (by omega) (by rw [hpn.1]; simp; omega) (fun σ2 hp2 => ⟨_, rfl, hp2.1, _, rfl, hp2.1, ?_⟩)
    rw [hpn.2.1, hpn.2.2.1, hpn.2.2.2] at hp2 ⊢
    exact hQ σ2 (hp.tr hp2)
  · exact x40 (by decide) hQ
end ACTSB
