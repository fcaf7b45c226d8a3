/-! what was heard: the reference -/
section HEARDM
variable {X : mX} {d : Nat} {σ : mS} {Q : Option mV → mS → Prop} {y : Nat} {Y Z : mY} {B : List mCl}
theorem ansS_cg {Y' : mY} {p : Nat} {v : Int} {s m : Nat} (h : ∀ a k, a ≠ 127 → a ≠ 128 → a ≠ 142 → Y' a k = Y a k) : ansS B Y' p v s m = ansS B Y p v s m := by
  unfold ansS witS
  rw [witN_cg (h 126 p (by decide) (by decide) (by decide)) (h 129 p (by decide) (by decide) (by decide)) (h 125 11 (by decide) (by decide) (by decide)) (h 130 _ (by decide) (by decide) (by decide))]
theorem hall_cg {Y' : mY} {p : Nat} {v : Int} {s : Nat} (h : ∀ a k, a ≠ 127 → a ≠ 128 → a ≠ 142 → Y' a k = Y a k) : ∀ m i, hall B Y' p v s m i = hall B Y p v s m i
  | 0, _ => rfl
  | m + 1, i => by
    simp only [hall]
    rw [hall_cg h m (i + 1)]
    congr 1
    unfold hfit
    rw [h 143 i (by decide) (by decide) (by decide), h 144 i (by decide) (by decide) (by decide), h 145 i (by decide) (by decide) (by decide), h 131 _ (by decide) (by decide) (by decide), ansS_cg h]
theorem m_heardL {σ0 : mS} (h0 : MB σ0 B) {p : Nat} (hp : p < 6) {R : Bool} (hQ : ∀ σ', Agk D155 σ0 σ' → Q (some (vI (bB R))) σ') : ∀ (m i : Nat) (σ : mS), (i : Int) + m = σ0.2.1 125 28 → Agk D155 σ0 σ → hall B σ0.2.1 p (σ0.2.1 127 p) (σ0.2.1 128 p).toNat m i = R → WP X (d + 6) (0, 0) MX11_isHeard 2 [(0, vP (some 125)), (1, vI (p : Int)), (2, vI (i : Int))] [] σ Q := by
  have hw := h0.2.1.hr
  intro m
  induction m with
  | zero =>
    intro i σ hi hA hR
    simp only [hall] at hR
    subst hR
    have e28 : σ.2.1 125 28 = σ0.2.1 125 28 := hA.n155 (by decide)
    exact C_X11_isHeard_2 hA.1 ⟨by omega, fun _ => hQ σ hA, fun hz => absurd hz (by omega)⟩
  | succ m ih =>
    intro i σ hi hA hR
    obtain ⟨w1, w2, w3⟩ := hw.2 i (by omega)
    have w0 := h0.2.1.1
    have w6 := h0.2.1.2.1
    have e28 : σ.2.1 125 28 = σ0.2.1 125 28 := hA.n155 (by decide)
    have nx : ∀ σ1, Agk D155 σ σ1 → hfit B σ0.2.1 p (σ0.2.1 127 p) (σ0.2.1 128 p).toNat i = true → WP X (d + 6) (0, 0) MX11_isHeard 2 [(0, vP (some 125)), (1, vI (p : Int)), (2, vI ((i : Int) + 1))] [] σ1 Q := fun σ1 hA1 hf => by
      simp only [hall] at hR
      rw [hf, Bool.true_and] at hR
      rw [show (i : Int) + 1 = ((i + 1 : Nat) : Int) by omega]
      exact ih (i + 1) σ1 (by omega) (D155_tr hA hA1) hR
    have no : ∀ σ1, Agk D155 σ σ1 → hfit B σ0.2.1 p (σ0.2.1 127 p) (σ0.2.1 128 p).toNat i = false → Q (some (vI (bB false))) σ1 := fun σ1 hA1 hf => by
      simp only [hall] at hR
      rw [hf, Bool.false_and] at hR
      rw [hR]
      exact hQ σ1 (D155_tr hA hA1)
    refine C_X11_isHeard_2 hA.1 ⟨by omega, fun hz => absurd hz (by omega), fun _ => ⟨by omega, by omega, by omega, ?_⟩⟩
    rw [show ((i : Int)).toNat = i by omega, hA.n155 (a := 143) (by decide), hA.n155 (a := 144) (by decide), hA.n155 (a := 131) (by decide)]
    refine ⟨fun hz => nx σ (Agk.rf hA.1) (by unfold hfit; rw [if_neg hz]), fun hz => ⟨by omega, by omega, ?_⟩⟩
    obtain ⟨q, hq⟩ : ∃ q : Nat, σ0.2.1 144 i = (q : Int) := ⟨(σ0.2.1 144 i).toNat, by omega⟩
    have wq := h0.2.1.q (q := q) (by omega)
    obtain ⟨mt, hmt⟩ : ∃ n : Nat, σ0.2.1 131 q = (n : Int) := ⟨(σ0.2.1 131 q).toNat, by omega⟩
    have ef : hfit B σ0.2.1 p (σ0.2.1 127 p) (σ0.2.1 128 p).toNat i = (ansY B σ0.2.1 p mt == decide (σ0.2.1 145 i = 1)) := by
      unfold hfit
      rw [if_pos hz, hq, show ((q : Int)).toNat = q by omega, hmt, show ((mt : Int)).toNat = mt by omega]
      rfl
    rw [hq, show ((q : Int)).toNat = q by omega, hmt]
    refine m_ans (h0.f155 hA) hp (by omega) (fun σ1 hA1 => ?_)
    rw [ansY_155 hA]
    rw [ef] at nx no
    refine ⟨_, rfl, hA1.1, ?_⟩
    rw [hA1.n155 (a := 145) (by decide), hA.n155 (a := 145) (by decide)]
    refine ⟨fun h1 => ⟨fun hb => nx σ1 hA1 ?_, fun hb => no σ1 hA1 ?_⟩, fun h1 => ⟨fun hb => nx σ1 hA1 ?_, fun hb => no σ1 hA1 ?_⟩⟩
    · rw [bB_0 hb, decide_eq_false h1]; rfl
    · rw [bB_1 hb, decide_eq_false h1]; rfl
    · have hb1 : ansY B σ0.2.1 p mt = true := bB_1 (fun q => by omega)
      rw [hb1, decide_eq_true h1]; rfl
    · have hb0 : bB (ansY B σ0.2.1 p mt) = 0 := by
        have := bB_z (c := ansY B σ0.2.1 p mt)
        omega
      rw [bB_0 hb0, decide_eq_true h1]; rfl
theorem m_heard (h : MB σ B) {p : Nat} (hp : p < 6) (hQ : ∀ σ', Agk D155 σ σ' → Q (some (vI (bB (hall B σ.2.1 p (σ.2.1 127 p) (σ.2.1 128 p).toNat (σ.2.1 125 28).toNat 0)))) σ') : CALL X (d + 6) (0, 0) MX11_isHeard [vP (some 125), vI (p : Int)] σ Q :=
  C_X11_isHeard h.1 (m_heardL h hp hQ (σ.2.1 125 28).toNat 0 σ (by have := h.2.1.hr.1; omega) (Agk.rf h.1) rfl)
/-- a place (c, p) is tried with values and set back behind -/
def DT (c p : Nat) : Nat → Nat → Prop := fun a k => a = 142 ∨ (a = c ∧ k = p)
theorem DT_ok {c p : Nat} (hc : c = 127 ∨ c = 128) : okD (DT c p) := fun a k h => by unfold DT at h; omega
theorem DT_sI {σ0 : mS} {c p : Nat} {z : Int} (hc : c = 127 ∨ c = 128) (hz : -2147483648 ≤ z ∧ z ≤ 2147483647) (hA : Agk (DT c p) σ0 σ) : Agk (DT c p) σ0 (sI σ c p z) := by
  have hk : σ.1[c]? = some (50, 6) := by
    rcases hc with rfl | rfl
    · exact hA.1.k rfl
    · exact hA.1.k rfl
  exact hA.sI (sh_I hA.1 hz hk (Or.inl (by decide))) (Or.inr ⟨rfl, rfl⟩)
theorem DT_mb {σ0 : mS} {c p : Nat} {z : Int} (hc : c = 127 ∨ c = 128) (h0 : MB σ0 B) (hA : Agk (DT c p) σ0 σ) (hz : (c = 128 ∧ 0 ≤ z ∧ z < 4096) ∨ (c = 127 ∧ 0 ≤ z ∧ z ≤ 9)) : MB (sI σ c p z) B := by
  have hA2 := DT_sI hc (show -2147483648 ≤ z ∧ z ≤ 2147483647 by omega) hA
  have n : ∀ a k, a ≠ 142 → ¬ (a = c ∧ k = p) → (sI σ c p z).2.1 a k = σ0.2.1 a k := fun a k q1 q2 => hA2.2.2 a k (fun q => by unfold DT at q; omega)
  have e : (sI σ c p z).2.1 c p = z := by rw [sI_at, if_pos ⟨rfl, rfl⟩]
  refine ⟨hA2.1, ?_, ?_⟩
  · rw [n 125 18 (by decide) (by omega)]
    obtain ⟨h1, h2, h3, h4, h5, h6, h7, h8⟩ := h0.2.1
    have na : ∀ a, a ≠ 142 → a ≠ c → (sI σ c p z).2.1 a = σ0.2.1 a := fun a q1 q2 => funext fun k => n a k q1 (by omega)
    unfold WFY
    rw [na 125 (by decide) (by omega), na 126 (by decide) (by omega), na 129 (by decide) (by omega), na 130 (by decide) (by omega), na 131 (by decide) (by omega), na 132 (by decide) (by omega), na 133 (by decide) (by omega), na 134 (by decide) (by omega), na 143 (by decide) (by omega), na 144 (by decide) (by omega), na 145 (by decide) (by omega), na 146 (by decide) (by omega), na 147 (by decide) (by omega), na 148 (by decide) (by omega), na 149 (by decide) (by omega)]
    refine ⟨h1, h2, h3, h4, fun q hq => ?_, h6, h7, h8⟩
    have k := h5 q hq
    refine ⟨k.1, ?_, ?_, k.2.2.2⟩
    · by_cases hz2 : 127 = c ∧ q = p
      · rw [hz2.1, hz2.2, e]; omega
      · rw [n 127 q (by decide) (by omega)]; exact k.2.1
    · by_cases hz2 : 128 = c ∧ q = p
      · rw [hz2.1, hz2.2, e]; omega
      · rw [n 128 q (by decide) (by omega)]; exact k.2.2.1
  · rw [n 125 19 (by decide) (by omega)]
    exact h0.2.2.fr hA2 (DT_ok hc)
theorem DT_back {σ0 : mS} {c p : Nat} {z : Int} (hc : c = 127 ∨ c = 128) (hz : -2147483648 ≤ z ∧ z ≤ 2147483647) (he : σ0.2.1 c p = z) (hA : Agk (DT c p) σ0 σ) : Agk D155 σ0 (sI σ c p z) := by
  have hA2 := DT_sI hc hz hA
  refine ⟨hA2.1, hA2.2.1, fun a k hn => ?_⟩
  rw [sI_at]
  by_cases hz2 : a = c ∧ k = p
  · rw [if_pos hz2, hz2.1, hz2.2, he]
  · rw [if_neg hz2]
    exact hA.2.2 a k (fun q => by rcases q with q | q; exact hn q; exact hz2 q)
theorem D155_T {c p : Nat} : ∀ a k, D155 a k → DT c p a k := fun _ _ h => Or.inl h
theorem m_knewL {σ0 : mS} (h0 : MB σ0 B) {p kn : Nat} (hp : p < 6) (hk : kn < 4096) (hkn : σ0.2.1 128 p = (kn : Int)) {x2 : Int} (h2 : 0 ≤ x2 ∧ x2 ≤ 1) (hQ : ∀ σ', Agk D155 σ0 σ' → Q (some (vI (if x2 = 0 then (cntF (heaF B σ0.2.1 p) 4096 0 : Int) else optI (fstF (heaF B σ0.2.1 p) 4096 0)))) σ') : ∀ (k m : Nat) (σ : mS), k + m = 4096 → Agk (DT 128 p) σ0 σ → WP X (d + 7) (0, 0) MX11_knew 19 [(0, vP (some 125)), (1, vI (p : Int)), (2, vI x2), (3, vI (kn : Int)), (4, vI (cntF (heaF B σ0.2.1 p) m k : Int)), (5, vI (optI (fstF (heaF B σ0.2.1 p) m k))), (6, vI ((k : Int) - 1))] [] σ Q := by
  intro k
  induction k with
  | zero =>
    intro m σ hm hA
    obtain rfl : m = 4096 := by omega
    refine C_X11_knew_19 hA.1 ⟨by omega, fun _ => ⟨by omega, by omega, by omega, by omega, fun hz => ?_, fun hz => ?_⟩, fun hz => absurd hz (by omega)⟩
    all_goals rw [show ((p : Int)).toNat = p by omega]
    all_goals have hQ' := hQ _ (DT_back (Or.inr rfl) (by omega) hkn hA)
    · rw [if_neg hz] at hQ'
      exact hQ'
    · rw [if_pos hz] at hQ'
      exact hQ'
  | succ k ih =>
    intro m σ hm hA
    have hM := DT_mb (z := (k : Int)) (Or.inr rfl) h0 hA (Or.inl ⟨rfl, by omega, by omega⟩)
    have e1 : (sI σ 128 p (k : Int)).2.1 128 p = (k : Int) := by rw [sI_at, if_pos ⟨rfl, rfl⟩]
    have n : ∀ a j, a ≠ 127 → a ≠ 128 → a ≠ 142 → (sI σ 128 p (k : Int)).2.1 a j = σ0.2.1 a j := fun a j _ q1 q2 => by
      rw [sI_at, if_neg (by omega)]
      exact hA.2.2 a j (fun q => by unfold DT at q; omega)
    have e2 : (sI σ 128 p (k : Int)).2.1 127 p = σ0.2.1 127 p := by
      rw [sI_at, if_neg (by omega)]
      exact hA.2.2 127 p (fun q => by unfold DT at q; omega)
    refine C_X11_knew_19 hA.1 ⟨by omega, fun hz => absurd hz (by omega), fun _ => ⟨by omega, by omega, ?_⟩⟩
    rw [show ((p : Int)).toNat = p by omega, show ((k + 1 : Nat) : Int) - 1 = (k : Int) by omega]
    refine m_heard hM hp (fun σ1 hA1 => ?_)
    rw [e1, e2, n 125 28 (by decide) (by decide) (by decide), hall_cg n, show ((k : Int)).toNat = k by omega]
    have hA2 : Agk (DT 128 p) σ0 σ1 := (DT_sI (Or.inr rfl) (by omega) hA).tr hA1 (fun _ _ q => q) D155_T
    refine ⟨_, rfl, hA1.1, fun hz => ?_, fun hz => ?_⟩
    all_goals rw [show (k : Int) + (-1) = (k : Int) - 1 by omega]
    · have := ih (m + 1) σ1 (by omega) hA2
      rw [cntF_n (show heaF B σ0.2.1 p k = false from hz), fstF_n (show heaF B σ0.2.1 p k = false from hz)] at this
      exact this
    · have := ih (m + 1) σ1 (by omega) hA2
      rw [cntF_y (show heaF B σ0.2.1 p k = true from hz), fstF_y (show heaF B σ0.2.1 p k = true from hz), show (((1 + cntF (heaF B σ0.2.1 p) m (k + 1)) : Nat) : Int) = (cntF (heaF B σ0.2.1 p) m (k + 1) : Int) + 1 by omega] at this
      exact this
theorem m_knew (h : MB σ B) {p : Nat} (hp : p < 6) {x2 : Int} (h2 : 0 ≤ x2 ∧ x2 ≤ 1) (hQ : ∀ σ', Agk D155 σ σ' → Q (some (vI (if x2 = 0 then (cntF (heaF B σ.2.1 p) 4096 0 : Int) else optI (fstF (heaF B σ.2.1 p) 4096 0)))) σ') : CALL X (d + 7) (0, 0) MX11_knew [vP (some 125), vI (p : Int), vI x2] σ Q := by
  have wg := h.2.1.g hp
  obtain ⟨kn, hkn⟩ : ∃ n : Nat, σ.2.1 128 p = (n : Int) := ⟨(σ.2.1 128 p).toNat, by omega⟩
  refine C_X11_knew h.1 ⟨by omega, by omega, ?_⟩
  rw [show ((p : Int)).toNat = p by omega, hkn]
  exact m_knewL h hp (by omega) hkn h2 hQ 4096 0 σ rfl (Agk.rf h.1)
theorem m_canL {σ0 : mS} (h0 : MB σ0 B) {p v0 : Nat} (hp : p < 6) (hv : v0 ≤ 9) (hkn : σ0.2.1 127 p = (v0 : Int)) {x2 : Int} (h2 : 0 ≤ x2 ∧ x2 ≤ 1) (hQ : ∀ σ', Agk D155 σ0 σ' → Q (some (vI (if x2 = 0 then (cntF (canF B σ0.2.1 p) 10 0 : Int) else optI (fstF (canF B σ0.2.1 p) 10 0)))) σ') : ∀ (k m : Nat) (σ : mS), k + m = 10 → Agk (DT 127 p) σ0 σ → WP X (d + 7) (0, 0) MX11_can 37 [(0, vP (some 125)), (1, vI (p : Int)), (2, vI x2), (3, vI (v0 : Int)), (4, vI (cntF (canF B σ0.2.1 p) m k : Int)), (5, vI (optI (fstF (canF B σ0.2.1 p) m k))), (6, vI ((k : Int) - 1))] [] σ Q := by
  intro k
  induction k with
  | zero =>
    intro m σ hm hA
    obtain rfl : m = 10 := by omega
    refine C_X11_can_37 hA.1 ⟨by omega, fun _ => ⟨by omega, by omega, by omega, by omega, fun hz => ?_, fun hz => ?_⟩, fun hz => absurd hz (by omega)⟩
    all_goals rw [show ((p : Int)).toNat = p by omega]
    all_goals have hQ' := hQ _ (DT_back (Or.inl rfl) (by omega) hkn hA)
    · rw [if_neg hz] at hQ'
      exact hQ'
    · rw [if_pos hz] at hQ'
      exact hQ'
  | succ k ih =>
    intro m σ hm hA
    have hM := DT_mb (z := (k : Int)) (Or.inl rfl) h0 hA (Or.inr ⟨rfl, by omega, by omega⟩)
    have e1 : (sI σ 127 p (k : Int)).2.1 127 p = (k : Int) := by rw [sI_at, if_pos ⟨rfl, rfl⟩]
    have n : ∀ a j, a ≠ 127 → a ≠ 128 → a ≠ 142 → (sI σ 127 p (k : Int)).2.1 a j = σ0.2.1 a j := fun a j q1 _ q2 => by
      rw [sI_at, if_neg (by omega)]
      exact hA.2.2 a j (fun q => by unfold DT at q; omega)
    have e2 : (sI σ 127 p (k : Int)).2.1 128 p = σ0.2.1 128 p := by
      rw [sI_at, if_neg (by omega)]
      exact hA.2.2 128 p (fun q => by unfold DT at q; omega)
    refine C_X11_can_37 hA.1 ⟨by omega, fun hz => absurd hz (by omega), fun _ => ⟨by omega, by omega, ?_⟩⟩
    rw [show ((p : Int)).toNat = p by omega, show ((k + 1 : Nat) : Int) - 1 = (k : Int) by omega]
    refine m_heard hM hp (fun σ1 hA1 => ?_)
    rw [e1, e2, n 125 28 (by decide) (by decide) (by decide), hall_cg n]
    have hA2 : Agk (DT 127 p) σ0 σ1 := (DT_sI (Or.inl rfl) (by omega) hA).tr hA1 (fun _ _ q => q) D155_T
    refine ⟨_, rfl, hA1.1, fun hz => ?_, fun hz => ?_⟩
    all_goals rw [show (k : Int) + (-1) = (k : Int) - 1 by omega]
    · have := ih (m + 1) σ1 (by omega) hA2
      rw [cntF_n (show canF B σ0.2.1 p k = false from hz), fstF_n (show canF B σ0.2.1 p k = false from hz)] at this
      exact this
    · have := ih (m + 1) σ1 (by omega) hA2
      rw [cntF_y (show canF B σ0.2.1 p k = true from hz), fstF_y (show canF B σ0.2.1 p k = true from hz), show (((1 + cntF (canF B σ0.2.1 p) m (k + 1)) : Nat) : Int) = (cntF (canF B σ0.2.1 p) m (k + 1) : Int) + 1 by omega] at this
      exact this
def canR (B : List mCl) (Y : mY) (p : Nat) (x : Int) : Int := if x = 0 then (cntF (canF B Y p) 10 0 : Int) else optI (fstF (canF B Y p) 10 0)
theorem ansS_e {Y Y' : mY} (h : EY Y Y') {p : Nat} {v : Int} {s m : Nat} : ansS B Y' p v s m = ansS B Y p v s m := by
  unfold ansS witS
  rw [witN_cg (h.a (by decide)) (h.a (by decide)) (h.c (by decide)) (h.a (by decide))]
theorem hall_e {Y Y' : mY} (h : EY Y Y') {p : Nat} {v : Int} {s : Nat} : ∀ m i, hall B Y' p v s m i = hall B Y p v s m i
  | 0, _ => rfl
  | m + 1, i => by
    simp only [hall]
    rw [hall_e h m (i + 1)]
    congr 1
    unfold hfit
    rw [h.a (a := 143) (by decide), h.a (a := 144) (by decide), h.a (a := 145) (by decide), h.a (a := 131) (by decide), ansS_e h]
theorem canF_e {Y Y' : mY} (h : EY Y Y') (p : Nat) : canF B Y' p = canF B Y p := by
  funext v
  unfold canF
  rw [h.a (a := 128) (by decide), h.c (k := 28) (by decide), hall_e h]
theorem heaF_e {Y Y' : mY} (h : EY Y Y') (p : Nat) : heaF B Y' p = heaF B Y p := by
  funext s
  unfold heaF
  rw [h.a (a := 127) (by decide), h.c (k := 28) (by decide), hall_e h]
theorem op_can (hi : Inv σ) {x1 x2 : Int} (h1 : -2147483648 ≤ x1 ∧ x1 ≤ 2147483647) (h2 : -2147483648 ≤ x2 ∧ x2 ≤ 2147483647) : BothI X (d + 8) MX10_can MX11_can [vI x1, vI x2] σ Inv := by
  have hs := hi.1
  obtain ⟨B, hM, hX⟩ := hi.bB
  have hc := hX.c
  have mm : ∀ (σ1 : mS), Agk DS σ σ1 → ∀ z : Int, (¬ (0 ≤ x1 ∧ x1 < σ.2.1 125 0) ∨ ¬ (0 ≤ x2 ∧ x2 ≤ 1) → z = -1) → (0 ≤ x1 ∧ x1 < σ.2.1 125 0 → 0 ≤ x2 ∧ x2 ≤ 1 → z = canR B σ.2.1 x1.toNat x2) → CALL X (d + 8) (0, 0) MX11_can [vP (some 125), vI x1, vI x2] σ1 (fun v' σ2 => v' = some (vI z) ∧ Inv σ2) := by
    intro σ1 hA z k1 k2
    have hM1 := hM.fr hA DS_ok DS_m
    have ey := hA.ey DS_m
    have hi1 := hi.ds hA
    have o1 := hM1.one
    have e0 := ey.c (k := 0) (by decide)
    refine C_X11_can hA.1 (c_isOne hA.1 h1 o1.1 ⟨_, rfl, hA.1, fun hz => ?_, fun hz => c_within hA.1 h2 (by decide) (by decide) ⟨_, rfl, hA.1, fun hz2 => ?_, fun hz2 => ⟨by have := of_decide_eq_true hz; omega, by have := of_decide_eq_true hz; omega, ?_⟩⟩⟩)
    · rw [k1 (Or.inl (by have := of_decide_eq_false hz; omega))]
      exact ⟨rfl, hi1⟩
    · rw [k1 (Or.inr (of_decide_eq_false hz2))]
      exact ⟨rfl, hi1⟩
    · have g1 := of_decide_eq_true hz
      have g2 := of_decide_eq_true hz2
      have wg := hM1.2.1.g (p := x1.toNat) (by omega)
      have hzz := k2 (by omega) g2
      obtain ⟨p, rfl⟩ : ∃ p : Nat, x1 = (p : Int) := ⟨x1.toNat, by omega⟩
      rw [show ((p : Int)).toNat = p by omega] at hzz wg ⊢
      obtain ⟨v0, hv0⟩ : ∃ n : Nat, σ1.2.1 127 p = (n : Int) := ⟨(σ1.2.1 127 p).toNat, by omega⟩
      rw [hv0]
      refine m_canL (σ0 := σ1) (d := d + 1) hM1 (by omega) (by omega) hv0 g2 (fun σ2 hB => ⟨?_, hi1.ds (hB.mono D155_S)⟩) 10 0 σ1 rfl (Agk.rf hA.1)
      rw [canF_e ey, hzz]
      rfl
  by_cases hp : 0 ≤ x1 ∧ x1 < σ.2.1 125 0
  · obtain ⟨p, rfl⟩ : ∃ p : Nat, x1 = (p : Int) := ⟨x1.toNat, by omega⟩
    refine C_X10_can hs (c_guardY hX hp.2 ⟨_, rfl, hs, fun hz => (by cases hz), fun a ha => ?_⟩)
    obtain rfl := Option.some.inj ha
    have hcr := cntF_le (canF B σ.2.1 p) 10 0
    have hfr := fstF_r (canF B σ.2.1 p) 10 0
    refine ⟨hX.isG (by omega), h2, fun hz => ?_, fun hz => ?_, fun hz => ⟨_, rfl, hs, by decide, mm σ (Agk.rf hs) _ (fun _ => rfl) (fun _ q => by omega)⟩⟩
    · refine C_X2_canCount hs (Or.inl rfl) (c_canCL (σ0 := σ) hp.2 (fun σ1 hA => ⟨_, rfl, hA.1, _, rfl, hA.1, by omega, mm σ1 (hA.mono DFn_S) _ (fun q => by omega) (fun _ _ => ?_)⟩) 10 0 0 σ rfl (Agk.rf hs) hX (Int.zero_add _))
      unfold canR
      rw [if_pos hz]
      rfl
    · refine C_X2_canLeast hs (Or.inl rfl) (c_canLL (σ0 := σ) hp.2 (fun σ1 hA => ⟨_, rfl, hA.1, _, rfl, hA.1, by omega, mm σ1 (hA.mono DFn_S) _ (fun q => by omega) (fun _ _ => ?_)⟩) 10 0 σ rfl (Agk.rf hs) hX rfl)
      unfold canR
      rw [if_neg (by omega)]
      rfl
  · exact C_X10_can hs (c_guardN hX h1 hp ⟨_, rfl, hs, fun _ => ⟨_, rfl, hs, by decide, mm σ (Agk.rf hs) _ (fun _ => rfl) (fun q => absurd q hp)⟩, fun a ha => by cases ha⟩)
end HEARDM
