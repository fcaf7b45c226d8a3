/-! LOAD: the reference tries all rows -/
section LOADM
variable {X : mX} {d : Nat} {σ : mS} {Q : Option mV → mS → Prop} {y : Nat} {Y Z : mY} {B : List mCl}
def DTr : Nat → Nat → Prop := fun a k => a = 142 ∨ a = 153 ∨ a = 154 ∨ (a = 125 ∧ k = 45)
theorem DTr_S : ∀ a k, DTr a k → DS a k := fun a k h => by
  unfold DTr at h
  unfold DS
  omega
theorem D155_Tr : ∀ a k, D155 a k → DTr a k := fun _ _ h => Or.inl h
theorem DTr_tr {σ1 σ2 : mS} (h1 : Agk DTr σ σ1) (h2 : Agk DTr σ1 σ2) : Agk DTr σ σ2 := h1.tr h2 (fun _ _ q => q) (fun _ _ q => q)
theorem DTr_m : ∀ a k, DTr a k → ¬ FYm a k := fun a k h => DS_m a k (DTr_S a k h)
theorem DTr_ok : okD DTr := fun a k h => DS_ok a k (DTr_S a k h)
/-- what trying all from the q-th question on (m of them) does: M the most so far -/
def TRs (B : List mCl) (Y : mY) (N : Nat) (σ σ' : mS) (m q u : Nat) (s : Int) : Prop :=
  (s + ldV B Y m q u ≤ σ.2.1 125 45 ∧ σ'.2.1 125 45 = σ.2.1 125 45 ∧ ∀ j, j < N → σ'.2.1 154 j = σ.2.1 154 j) ∨ (σ.2.1 125 45 < s + ldV B Y m q u ∧ σ'.2.1 125 45 = s + ldV B Y m q u ∧ (∀ j, j < q → σ'.2.1 154 j = σ.2.1 153 j) ∧ ∀ j, q + j < N → σ'.2.1 154 (q + j) = ldA B Y j m q u)
theorem m_try25 {σ0 : mS} (hQ : ∀ σ', Agk (fun a _ => a = 154) σ0 σ' → (∀ j, j < 6 → σ'.2.1 154 j = σ0.2.1 153 j) → Q none σ') : ∀ (m i : Nat) (σ : mS), i + m = 6 → Agk (fun a _ => a = 154) σ0 σ → (∀ j, j < i → σ.2.1 154 j = σ0.2.1 153 j) → WP X (d + 1) (0, 0) MX11_tries 25 [(0, vP (some 125)), (4, vI (i : Int))] [] σ Q := by
  intro m
  induction m with
  | zero =>
    intro i σ hi hA hj
    exact C_X11_tries_25 hA.1 ⟨by omega, fun _ => hQ σ hA (fun j h => hj j (by omega)), fun hz => absurd hz (by omega)⟩
  | succ m ih =>
    intro i σ hi hA hj
    refine C_X11_tries_25 hA.1 ⟨by omega, fun hz => absurd hz (by omega), fun _ => ⟨by omega, by omega, ?_⟩⟩
    rw [show ((i : Int)).toNat = i by omega, show (i : Int) + 1 = ((i + 1 : Nat) : Int) by omega, hA.2.2 153 i (by omega)]
    have hs1 : Sh (sI σ 154 i (σ0.2.1 153 i)) := sh_I hA.1 (by have := hA.1.2.2.1 153 i; rw [hA.2.2 153 i (by omega)] at this; exact this) (hA.1.k (a := 154) rfl) (Or.inl (by decide))
    refine ih (i + 1) _ (by omega) (hA.sI hs1 rfl) (fun j h => ?_)
    rw [sI_at]
    by_cases hz : j = i
    · rw [if_pos ⟨rfl, hz⟩, hz]
    · rw [if_neg (by omega)]
      exact hj j (by omega)
def ldO (B : List mCl) (Y : mY) (q u p : Nat) : Bool := (nd (ablN B Y q) u).testBit p
def ldF (B : List mCl) (Y : mY) (m q u p : Nat) : Int := ldB B Y q p u (ldV B Y m (q + 1))
theorem ldF_n {m q u p : Nat} (h : ldO B Y q u p = false) : ldF B Y m q u p = -1 := by
  unfold ldF ldB
  unfold ldO at h
  rw [h]
  rfl
theorem ldF_y {m q u p : Nat} (h : ldO B Y q u p = true) : ldF B Y m q u p = Y 132 q + ldV B Y m (q + 1) (u ||| 2 ^ p) := by
  unfold ldF ldB
  unfold ldO at h
  rw [h]
  rfl
/-- while the guards ahead of p have been tried for question q -/
def TIn (B : List mCl) (Y : mY) (N : Nat) (σ σ1 : mS) (m q u : Nat) (s : Int) (p : Nat) : Prop :=
  (σ1.2.1 125 45 = σ.2.1 125 45 ∧ (∀ j, j < N → σ1.2.1 154 j = σ.2.1 154 j) ∧ ∀ p', p' < p → ldO B Y q u p' = true → s + ldF B Y m q u p' ≤ σ.2.1 125 45) ∨
  (∃ p0, p0 < p ∧ ldO B Y q u p0 = true ∧ σ.2.1 125 45 < s + ldF B Y m q u p0 ∧ σ1.2.1 125 45 = s + ldF B Y m q u p0 ∧ (∀ j, j < q → σ1.2.1 154 j = σ.2.1 153 j) ∧ σ1.2.1 154 q = (p0 : Int) ∧ (∀ j, q + 1 + j < N → σ1.2.1 154 (q + 1 + j) = ldA B Y j m (q + 1) (u ||| 2 ^ p0)) ∧ (∀ p', p' < p → ldO B Y q u p' = true → ldF B Y m q u p' ≤ ldF B Y m q u p0) ∧ ∀ p', p' < p0 → ldO B Y q u p' = true → ldF B Y m q u p' < ldF B Y m q u p0)
theorem TIn.skip {N : Nat} {σ1 σ2 : mS} {m q u p : Nat} {s : Int} (h : TIn B Y N σ σ1 m q u s p) (ho : ldO B Y q u p = false) (e45 : σ2.2.1 125 45 = σ1.2.1 125 45) (e167 : ∀ j, σ2.2.1 154 j = σ1.2.1 154 j) : TIn B Y N σ σ2 m q u s (p + 1) := by
  have lt : ∀ p', p' < p + 1 → ldO B Y q u p' = true → p' < p := fun p' h1 h2 => by
    by_cases hz : p' = p
    · rw [hz, ho] at h2; cases h2
    · omega
  rcases h with ⟨h1, h2, h3⟩ | ⟨p0, k1, k2, k3, k4, k5, k6, k7, k8, k9⟩
  · exact Or.inl ⟨e45.trans h1, fun j hj => (e167 j).trans (h2 j hj), fun p' q1 q2 => h3 p' (lt p' q1 q2) q2⟩
  · exact Or.inr ⟨p0, by omega, k2, k3, e45.trans k4, fun j hj => (e167 j).trans (k5 j hj), (e167 q).trans k6, fun j hj => (e167 _).trans (k7 j hj), fun p' q1 q2 => k8 p' (lt p' q1 q2) q2, k9⟩
theorem TIn.more {N : Nat} {σ1 σa σ2 : mS} {m q u p : Nat} {s : Int} (h : TIn B Y N σ σ1 m q u s p) (hq : q < N) (ho : ldO B Y q u p = true) (e45 : σa.2.1 125 45 = σ1.2.1 125 45) (e167 : ∀ j, σa.2.1 154 j = σ1.2.1 154 j) (e166 : ∀ j, j < q → σa.2.1 153 j = σ.2.1 153 j) (eq166 : σa.2.1 153 q = (p : Int)) (hR : TRs B Y N σa σ2 m (q + 1) (u ||| 2 ^ p) (s + Y 132 q)) : TIn B Y N σ σ2 m q u s (p + 1) := by
  have hf := ldF_y (m := m) ho
  have eV : s + Y 132 q + ldV B Y m (q + 1) (u ||| 2 ^ p) = s + ldF B Y m q u p := by rw [hf]; omega
  unfold TRs at hR
  rw [eV, e45] at hR
  rcases hR with ⟨r1, r2, r3⟩ | ⟨r1, r2, r3, r4⟩
  · rcases h with ⟨h1, h2, h3⟩ | ⟨p0, k1, k2, k3, k4, k5, k6, k7, k8, k9⟩
    · refine Or.inl ⟨r2.trans h1, fun j hj => ?_, fun p' q1 q2 => ?_⟩
      · rw [r3 j hj, e167, h2 j hj]
      · by_cases hz : p' = p
        · rw [hz, ← h1]; exact r1
        · exact h3 p' (by omega) q2
    · refine Or.inr ⟨p0, by omega, k2, k3, r2.trans k4, fun j hj => ?_, ?_, fun j hj => ?_, fun p' q1 q2 => ?_, k9⟩
      · rw [r3 j (by omega), e167, k5 j hj]
      · rw [r3 q hq, e167, k6]
      · rw [r3 _ hj, e167, k7 j hj]
      · by_cases hz : p' = p
        · rw [hz]; omega
        · exact k8 p' (by omega) q2
  · refine Or.inr ⟨p, by omega, ho, ?_, r2, fun j hj => ?_, ?_, fun j hj => r4 j hj, fun p' q1 q2 => ?_, fun p' q1 q2 => ?_⟩
    · rcases h with ⟨h1, -, -⟩ | ⟨p0, -, -, k3, k4, -⟩ <;> omega
    · rw [r3 j (by omega), e166 j hj]
    · rw [r3 q (by omega), eq166]
    · by_cases hz : p' = p
      · rw [hz]; exact Int.le_refl _
      · rcases h with ⟨h1, -, h3⟩ | ⟨p0, k1, -, k3, k4, -, -, -, k8, -⟩
        · have := h3 p' (by omega) q2
          omega
        · have := k8 p' (by omega) q2
          omega
    · rcases h with ⟨h1, -, h3⟩ | ⟨p0, k1, -, k3, k4, -, -, -, k8, -⟩
      · have := h3 p' q1 q2
        omega
      · have := k8 p' q1 q2
        omega
theorem ldO_G {nb : Int} (h : WFY nb Y) {q u p : Nat} (ho : ldO B Y q u p = true) : (p : Int) < Y 125 0 ∧ p < 6 := by
  have := h.1
  unfold ldO at ho
  rw [nd_bit, Bool.and_eq_true] at ho
  unfold ablN at ho
  split at ho
  · rw [bitsF_bit, Bool.and_eq_true, decide_eq_true_eq] at ho
    omega
  · rw [Nat.zero_testBit] at ho
    cases ho.1
theorem TIn.done {nb : Int} (hW : WFY nb Y) {N : Nat} {σ1 σa σ2 : mS} {m q u G : Nat} {s : Int} (hG : Y 125 0 = (G : Int)) (h : TIn B Y N σ σ1 m q u s G) (hq : q + (m + 1) = N) (e45 : σa.2.1 125 45 = σ1.2.1 125 45) (e167 : ∀ j, σa.2.1 154 j = σ1.2.1 154 j) (e166 : ∀ j, j < q → σa.2.1 153 j = σ.2.1 153 j) (eq166 : σa.2.1 153 q = -5) (hR : TRs B Y N σa σ2 m (q + 1) u s) : TRs B Y N σ σ2 (m + 1) q u s := by
  have hV : ldV B Y (m + 1) q u = maxP (ldF B Y m q u) 6 0 (ldV B Y m (q + 1) u) := rfl
  have hP : ldP B Y (m + 1) q u = fbP (ldF B Y m q u) (ldV B Y (m + 1) q u) 6 0 := rfl
  have v0 := ldV_0 (B := B) (Y := Y) m (q + 1) u
  have vge := maxP_a (ldF B Y m q u) 6 0 (ldV B Y m (q + 1) u)
  have vf : ∀ p, p < 6 → ldF B Y m q u p ≤ ldV B Y (m + 1) q u := fun p hp => by
    rw [hV]
    exact maxP_f _ 6 0 _ p (Nat.zero_le _) (by omega)
  have vin := maxP_in (ldF B Y m q u) 6 0 (ldV B Y m (q + 1) u)
  rw [← hV] at vge vin
  have okv : ∀ p, ldF B Y m q u p = ldV B Y (m + 1) q u → ldO B Y q u p = true := fun p hp => by
    cases ho : ldO B Y q u p with
    | true => rfl
    | false => rw [ldF_n ho] at hp; omega
  have hok : ∀ p, ldO B Y q u p = true → p < G ∧ p < 6 := fun p ho => by
    have := ldO_G hW ho
    omega
  have spec := fbP_spec (ldF B Y m q u) (ldV B Y (m + 1) q u) 6 0
  rw [← hP] at spec
  unfold TRs at hR
  rw [e45] at hR
  rcases hR with ⟨r1, r2, r3⟩ | ⟨r1, r2, r3, r4⟩
  · rcases h with ⟨h1, h2, h3⟩ | ⟨p0, k1, k2, k3, k4, k5, k6, k7, k8, k9⟩
    · refine Or.inl ⟨?_, r2.trans h1, fun j hj => ?_⟩
      · rcases vin with hv | ⟨p', -, -, hv⟩
        · rw [hv, ← h1]; exact r1
        · have ho := okv p' hv.symm
          rw [hv]
          exact h3 p' (hok p' ho).1 ho
      · rw [r3 j hj, e167, h2 j hj]
    · have hp06 := (hok p0 k2).2
      have eV : ldV B Y (m + 1) q u = ldF B Y m q u p0 := by
        have := vf p0 hp06
        rcases vin with hv | ⟨p', -, -, hv⟩
        · omega
        · have ho := okv p' hv.symm
          have := k8 p' (hok p' ho).1 ho
          omega
      have eP : ldP B Y (m + 1) q u = (p0 : Int) := by
        rcases spec with ⟨-, s2⟩ | ⟨j, -, s2, s3, s4, s5⟩
        · exact absurd eV.symm (s2 p0 (Nat.zero_le _) (by omega))
        · rw [s3]
          by_cases hz : j = p0
          · rw [hz]
          · by_cases hl : j < p0
            · have := k9 j hl (okv j s4)
              omega
            · exact absurd eV.symm (s5 p0 (Nat.zero_le _) (by omega))
      refine Or.inr ⟨by rw [eV]; exact k3, by rw [eV, r2, k4], fun j hj => ?_, fun j hj => ?_⟩
      · rw [r3 j (by omega), e167, k5 j hj]
      · rw [r3 _ hj, e167]
        cases j with
        | zero =>
          show σ1.2.1 154 q = ldP B Y (m + 1) q u
          rw [k6, eP]
        | succ j =>
          show σ1.2.1 154 (q + (j + 1)) = ldA B Y j (m + 1 - 1) (q + 1) (ldU u (ldP B Y (m + 1) q u))
          rw [eP, show q + (j + 1) = q + 1 + j by omega, k7 j (by omega)]
          unfold ldU
          rw [if_pos (by omega)]
          rfl
  · have flt : ∀ p, ldO B Y q u p = true → ldF B Y m q u p < ldV B Y m (q + 1) u := fun p ho => by
      rcases h with ⟨h1, -, h3⟩ | ⟨p0, k1, -, k3, k4, -, -, -, k8, -⟩
      · have := h3 p (hok p ho).1 ho
        omega
      · have := k8 p (hok p ho).1 ho
        omega
    have eV : ldV B Y (m + 1) q u = ldV B Y m (q + 1) u := by
      rcases vin with hv | ⟨p', -, -, hv⟩
      · exact hv
      · have := flt p' (okv p' hv.symm)
        omega
    have eP : ldP B Y (m + 1) q u = -5 := by
      rcases spec with ⟨s1, -⟩ | ⟨j, -, -, -, s4, -⟩
      · exact s1
      · have := flt j (okv j s4)
        omega
    refine Or.inr ⟨?_, by rw [eV, r2], fun j hj => ?_, fun j hj => ?_⟩
    · rw [eV]
      rcases h with ⟨h1, -, -⟩ | ⟨p0, -, -, k3, k4, -⟩ <;> omega
    · rw [r3 j (by omega), e166 j hj]
    · cases j with
      | zero =>
        show σ2.2.1 154 q = ldP B Y (m + 1) q u
        rw [r3 q (by omega), eq166, eP]
      | succ j =>
        show σ2.2.1 154 (q + (j + 1)) = ldA B Y j (m + 1 - 1) (q + 1) (ldU u (ldP B Y (m + 1) q u))
        rw [eP, show q + (j + 1) = q + 1 + j by omega, r4 j (by omega)]
        rfl
theorem CALL.dep {X : mX} {d d' : Nat} {b : Nat × Nat} {M : mM} {As : List mV} {σ : mS} {Q : Option mV → mS → Prop} (h : d = d') (k : CALL X d b M As σ Q) : CALL X d' b M As σ Q := h ▸ k
theorem m_tries {N : Nat} : ∀ (m q u : Nat) (s : Int) (σ : mS) (Q : Option mV → mS → Prop), MB σ B → EY Y σ.2.1 → WFY (σ.2.1 125 18) Y → Y 125 6 = (N : Int) → q + m = N → u < 64 → 0 ≤ s ∧ s ≤ 99 * q → (∀ σ', Agk DTr σ σ' → (∀ j, j < q → σ'.2.1 153 j = σ.2.1 153 j) → TRs B Y N σ σ' m q u s → Q none σ') → CALL X (d + 6 + m) (0, 0) MX11_tries [vP (some 125), vI (q : Int), vI (u : Int), vI s] σ Q
  | 0, q, u, s, σ, Q, hM, ey, hW, hN, hq, hu, hs, hQ => by
    have hsh := hM.1
    have w6 := hW.2.1
    have e6 := ey.c (k := 6) (by decide)
    refine C_X11_tries hsh ⟨by omega, fun hz => absurd (show (q : Int) = σ.2.1 125 6 by omega) hz, fun _ => ⟨by omega, fun hl => ?_, fun hl => hQ σ (Agk.rf hsh) (fun _ _ => rfl) (Or.inl ⟨by simp only [ldV]; omega, rfl, fun _ _ => rfl⟩)⟩⟩
    have hs1 : Sh (sI σ 125 45 s) := sh_I hsh (by omega) (hsh.k (a := 125) rfl) (Or.inl (by decide))
    have hA1 : Agk DTr σ (sI σ 125 45 s) := (Agk.rf hsh).sI hs1 (Or.inr (Or.inr (Or.inr ⟨rfl, rfl⟩)))
    refine m_try25 (σ0 := sI σ 125 45 s) (fun σ2 hB hj => ?_) 6 0 _ rfl (Agk.rf hs1) (fun j h => absurd h (by omega))
    refine hQ σ2 (DTr_tr hA1 (hB.mono (fun a k q => Or.inr (Or.inr (Or.inl q))))) (fun j hj2 => ?_) (Or.inr ⟨?_, ?_, fun j hj2 => ?_, fun j hj2 => absurd hj2 (by omega)⟩)
    · rw [hB.2.2 153 j (by omega), sI_at, if_neg (by omega)]
    · simp only [ldV]; omega
    · rw [hB.2.2 125 45 (by omega), sI_at, if_pos ⟨rfl, rfl⟩]
      simp only [ldV]; omega
    · rw [hj j (by omega), sI_at, if_neg (by omega)]
  | m + 1, q, u, s, σ, Q, hM, ey, hW, hN, hq, hu, hs, hQ => by
    have hsh := hM.1
    have w0 := hW.1
    have w6 := hW.2.1
    have e6 := ey.c (k := 6) (by decide)
    have hq6 : q < 6 := by omega
    have wq := hW.q hq6
    obtain ⟨G, hG⟩ : ∃ n : Nat, Y 125 0 = (n : Int) := ⟨(Y 125 0).toNat, by omega⟩
    obtain ⟨mt, hmt⟩ : ∃ n : Nat, Y 131 q = (n : Int) := ⟨(Y 131 q).toNat, by omega⟩
    -- the guards from the p-th on
    have loop : ∀ (k p : Nat) (σ1 : mS), p + k = G → Agk DTr σ σ1 → (∀ j, j < q → σ1.2.1 153 j = σ.2.1 153 j) → TIn B Y N σ σ1 m q u s p → WP X (d + 6 + (m + 1)) (0, 0) MX11_tries 56 [(0, vP (some 125)), (1, vI (q : Int)), (2, vI (u : Int)), (3, vI s), (4, vI (p : Int))] [] σ1 Q := by
      intro k
      induction k with
      | zero =>
        intro p σ1 hp hA h166 hT
        obtain rfl : p = G := by omega
        have ey1 := ey.tr (hA.ey DTr_m)
        have e0 := ey1.c (k := 0) (by decide)
        refine C_X11_tries_56 hA.1 ⟨by omega, fun _ => ⟨by omega, by omega, ?_⟩, fun hz => absurd hz (by omega)⟩
        rw [show ((q : Int)).toNat = q by omega, show (q : Int) + 1 = ((q + 1 : Nat) : Int) by omega]
        have hs2 : Sh (sI σ1 153 q (-5)) := sh_I hA.1 (by decide) (hA.1.k (a := 153) rfl) (Or.inl (by decide))
        have hA2 : Agk DTr σ (sI σ1 153 q (-5)) := hA.sI hs2 (Or.inr (Or.inl rfl))
        refine m_tries m (q + 1) u s _ _ (hM.fr hA2 DTr_ok DTr_m) (ey.tr (hA2.ey DTr_m)) (by rw [sI_at, if_neg (by omega), hA.2.2 125 18 (by unfold DTr; omega)]; exact hW) hN (by omega) hu (by omega) (fun σ3 hB hj hR => ⟨rfl, hB.1, ?_⟩)
        refine hQ σ3 (DTr_tr hA2 hB) (fun j hj2 => ?_) (hT.done hW hG hq (σa := sI σ1 153 q (-5)) ?_ (fun j => ?_) (fun j hj2 => ?_) ?_ hR)
        · rw [hj j (by omega), sI_at, if_neg (by omega), h166 j hj2]
        · rw [sI_at, if_neg (by omega)]
        · rw [sI_at, if_neg (by omega)]
        · rw [sI_at, if_neg (by omega), h166 j hj2]
        · rw [sI_at, if_pos ⟨rfl, rfl⟩]
      | succ k ih =>
        intro p σ1 hp hA h166 hT
        have hp6 : p < 6 := by omega
        have ey1 := ey.tr (hA.ey DTr_m)
        have e0 := ey1.c (k := 0) (by decide)
        have hM1 := hM.fr hA DTr_ok DTr_m
        have h2p := p_lt hp6
        refine C_X11_tries_56 hA.1 ⟨by omega, fun hz => absurd hz (by omega), fun _ => ⟨by omega, by omega, ?_⟩⟩
        rw [show ((q : Int)).toNat = q by omega, ey1.a (a := 133) (by decide), ey1.a (a := 131) (by decide), hmt, show (p : Int) + 1 = ((p + 1 : Nat) : Int) by omega, bit_1 (by omega) (by omega)]
        have skip : ∀ σ2, Agk D155 σ1 σ2 → ldO B Y q u p = false → WP X (d + 6 + (m + 1)) (0, 0) MX11_tries 56 [(0, vP (some 125)), (1, vI (q : Int)), (2, vI (u : Int)), (3, vI s), (4, vI ((p + 1 : Nat) : Int))] [] σ2 Q := fun σ2 hB ho =>
          ih (p + 1) σ2 (by omega) (DTr_tr hA (hB.mono D155_Tr)) (fun j hj => by rw [hB.n155 (by decide), h166 j hj]) (hT.skip ho (hB.n155 (by decide)) (fun j => hB.n155 (by decide)))
        have oq : Y 133 q = 0 → ldO B Y q u p = (ansY B Y p mt && !(u.testBit p)) := fun h0 => by
          unfold ldO
          rw [nd_bit]
          unfold ablN
          rw [if_pos ⟨by omega, h0⟩, bitsF_bit, decide_eq_true (by omega), Bool.true_and, hmt, show ((mt : Int)).toNat = mt by omega]
        refine ⟨fun hz => skip σ1 (Agk.rf hA.1) ?_, fun hz => ⟨fun hb => skip σ1 (Agk.rf hA.1) ?_, fun hb => ?_⟩⟩
        · unfold ldO
          rw [nd_bit]
          unfold ablN
          rw [if_neg (fun q' => hz q'.2), Nat.zero_testBit]
          rfl
        · have : u.testBit p = true := by
            cases hc : u.testBit p with
            | true => rfl
            | false => rw [hc] at hb; exact absurd hb (by decide)
          rw [oq hz, this, Bool.not_true, Bool.and_false]
        · have hub : u.testBit p = false := by
            cases hc : u.testBit p with
            | false => rfl
            | true => rw [hc] at hb; exact absurd rfl hb
          have ea : ansY B σ1.2.1 p mt = ansY B Y p mt := ansY_cg (ey1.a (by decide)) (ey1.a (by decide)) (ey1.c (by decide)) (fun k => ey1.a (by decide)) (ey1.a (by decide)) (ey1.a (by decide))
          refine CALL.dep (show d + 1 + m + 5 = d + 6 + m by omega) (m_ans (d := d + 1 + m) hM1 hp6 (by omega) (fun σ2 hB => ?_))
          rw [ea]
          refine ⟨_, rfl, hB.1, fun hz2 => skip σ2 hB (by rw [oq hz, hz2]; rfl), fun hz2 => ?_⟩
          have hs3 : Sh (sI σ2 153 q (p : Int)) := sh_I hB.1 (by omega) (hB.1.k (a := 153) rfl) (Or.inl (by decide))
          have hA3 : Agk DTr σ1 (sI σ2 153 q (p : Int)) := (hB.mono D155_Tr).sI hs3 (Or.inr (Or.inl rfl))
          have hA4 := DTr_tr hA hA3
          have eg : (sI σ2 153 q (p : Int)).2.1 132 q = Y 132 q := by rw [sI_at, if_neg (by omega), hB.n155 (by decide), ey1.a (by decide)]
          rw [eg, bshl_1 p (by omega), bor_n (by omega) (by omega), show (q : Int) + 1 = ((q + 1 : Nat) : Int) by omega]
          have ho : ldO B Y q u p = true := by rw [oq hz, hz2, hub]; rfl
          refine m_tries m (q + 1) (u ||| 2 ^ p) (s + Y 132 q) _ _ (hM.fr hA4 DTr_ok DTr_m) (ey.tr (hA4.ey DTr_m)) (by rw [hA4.2.2 125 18 (by unfold DTr; omega)]; exact hW) hN (by omega) (or_64 hu h2p) (by omega) (fun σ5 hC hj hR => ⟨rfl, hC.1, ?_⟩)
          refine ih (p + 1) σ5 (by omega) (DTr_tr hA4 hC) (fun j hj2 => ?_) (hT.more (by omega) ho (σa := sI σ2 153 q (p : Int)) ?_ (fun j => ?_) (fun j hj2 => ?_) ?_ hR)
          · rw [hj j (by omega), sI_at, if_neg (by omega), hB.n155 (by decide), h166 j hj2]
          · rw [sI_at, if_neg (by omega), hB.n155 (by decide)]
          · rw [sI_at, if_neg (by omega), hB.n155 (by decide)]
          · rw [sI_at, if_neg (by omega), hB.n155 (by decide), h166 j hj2]
          · rw [sI_at, if_pos ⟨rfl, rfl⟩]
    refine C_X11_tries hsh ⟨by omega, fun _ => loop G 0 σ (Nat.zero_add _) (Agk.rf hsh) (fun _ _ => rfl) (Or.inl ⟨rfl, fun _ _ => rfl, fun p' h => absurd h (by omega)⟩), fun hz => absurd hz (by omega)⟩
theorem m_loads (hM : MB σ B) {N : Nat} (hN : σ.2.1 125 6 = (N : Int)) (hQ : ∀ σ', Agk DTr σ σ' → σ'.2.1 125 45 = ldV B σ.2.1 N 0 0 → (∀ j, j < N → σ'.2.1 154 j = ldA B σ.2.1 j N 0 0) → Q none σ') : CALL X (d + 7 + N) (0, 0) MX11_loads [vP (some 125)] σ Q := by
  have hs := hM.1
  have hs1 : Sh (sI σ 125 45 (-1)) := sh_I hs (by decide) (hs.k (a := 125) rfl) (Or.inl (by decide))
  have hA1 : Agk DTr σ (sI σ 125 45 (-1)) := (Agk.rf hs).sI hs1 (Or.inr (Or.inr (Or.inr ⟨rfl, rfl⟩)))
  have v0 := ldV_0 (B := B) (Y := σ.2.1) N 0 0
  rw [show d + 7 + N = (d + 6 + N) + 1 by omega]
  refine C_X11_loads hs (m_tries (B := B) (Y := σ.2.1) (N := N) N 0 0 0 _ _ (hM.fr hA1 DTr_ok DTr_m) (hA1.ey DTr_m) (by rw [sI_at, if_neg (by omega)]; exact hM.2.1) hN (Nat.zero_add _) (by decide) (by decide) (fun σ2 hB hj hR => ⟨rfl, hB.1, ?_⟩))
  have e45 : (sI σ 125 45 (-1)).2.1 125 45 = -1 := by rw [sI_at, if_pos ⟨rfl, rfl⟩]
  unfold TRs at hR
  rw [e45] at hR
  rcases hR with ⟨r1, -⟩ | ⟨-, r2, -, r4⟩
  · omega
  · refine hQ σ2 (DTr_tr hA1 hB) (by rw [r2, Int.zero_add]) (fun j hj2 => ?_)
    have := r4 j (by omega)
    rw [Nat.zero_add] at this
    exact this
end LOADM
