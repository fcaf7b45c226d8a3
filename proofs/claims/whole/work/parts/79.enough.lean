/-! which guards are enough -/
section ENOUGH
variable {X : mX} {d : Nat} {σ : mS} {Q : Option mV → mS → Prop} {y : Nat} {Y Z : mY} {B : List mCl}
theorem C_X2_findAble_24n {x1 : Nat} {x2 x4 : Int} (hs : Sh σ) (hx1 : isY x1) (h : (-2147483648 ≤ x4 ∧ x4 ≤ 2147483647) ∧ WP X (d + 1) (0, 0) MX2_findAble 2 [(0, vP (some 82)), (1, vP (some x1)), (2, vI (x2 + 1))] [] σ Q) : WP X (d + 1) (0, 0) MX2_findAble 24 [(0, vP (some 82)), (1, vP (some x1)), (2, vI x2), (3, vP none), (4, vI x4)] [] σ Q :=
  r_iload dX2_findAble_24 rfl rfl (r_aloadP_n dX2_findAble_26 rfl rfl (r_getfN (a := x1) (t := 0) dX2_findAble_27 rfl mc9 (by decide) rfl fn_X2_40 rfl (kY hs hx1) (r_icmp_ge dX2_findAble_30 rfl rfl h.1 (hs.2.2.1 _ _)
    (fun _ => r_iinc (l' := [(0, vP (some 82)), (1, vP (some x1)), (2, vI (x2 + 1))]) dX2_findAble_84 rfl rfl (by decide) [1, 2, 0] rfl (r_goto dX2_findAble_87 rfl h.2))
    (fun _ => r_aloadP_n dX2_findAble_33 rfl rfl (r_ifnull dX2_findAble_34 rfl rfl (fun _ => r_iinc (l' := [(0, vP (some 82)), (1, vP (some x1)), (2, vI (x2 + 1))]) dX2_findAble_84 rfl rfl (by decide) [1, 2, 0] rfl (r_goto dX2_findAble_87 rfl h.2)) (fun _ c => nomatch c))))))
/-- the guards who can answer a question that waits -/
def ablN (B : List mCl) (Y : mY) (q : Nat) : Nat := if (q : Int) < Y 125 6 ∧ Y 133 q = 0 then bitsF (fun p => ansY B Y p (Y 131 q).toNat) (Y 125 0).toNat 0 else 0
theorem ablN_lt {nb : Int} (h : WFY nb Y) (q : Nat) : ablN B Y q < 64 := by
  have := h.1
  unfold ablN
  split
  · exact bitsF_lt _ _ _ (by omega)
  · decide
theorem bitsF_y {f : Nat → Bool} {m q : Nat} (h : f q = true) : bitsF f (m + 1) q = 2 ^ q ||| bitsF f m (q + 1) := by
  show (if f q = true then 2 ^ q else 0) ||| bitsF f m (q + 1) = _
  rw [h]
  rfl
theorem bitsF_n {f : Nat → Bool} {m q : Nat} (h : f q = false) : bitsF f (m + 1) q = bitsF f m (q + 1) := by
  show (if f q = true then 2 ^ q else 0) ||| bitsF f m (q + 1) = _
  rw [h]
  exact Nat.zero_or _
theorem c_able24 {σ0 : mS} {q mt R : Nat} (hq : (q : Int) < Y 125 6) (h0 : Y 133 q = 0) (hmt : Y 131 q = (mt : Int)) (hm4 : mt < 4096) (hQ : ∀ σ', Agk DFn σ0 σ' → YB σ' y Y B → σ'.2.1 103 q = (R : Int) → (∀ j, j ≠ q → σ'.2.1 103 j = σ0.2.1 103 j) → WP X (d + 7) (0, 0) MX2_findAble 2 [(0, vP (some 82)), (1, vP (some y)), (2, vI ((q : Int) + 1))] [] σ' Q) : ∀ (m p s : Nat) (σ : mS), (p : Int) + m = Y 125 0 → Agk DFn σ0 σ → YB σ y Y B → σ.2.1 103 q = (s : Int) → s < 4096 → (∀ j, j ≠ q → σ.2.1 103 j = σ0.2.1 103 j) → s ||| bitsF (fun p => ansY B Y p mt) m p = R → WP X (d + 7) (0, 0) MX2_findAble 24 [(0, vP (some 82)), (1, vP (some y)), (2, vI (q : Int)), (3, vP (some (y + 11 + 3 * q))), (4, vI (p : Int))] [] σ Q := by
  intro m
  induction m with
  | zero =>
    intro p s σ hp hA h hc hs4 hj hR
    have hcc := h.c
    simp only [bitsF, Nat.or_zero] at hR
    subst hR
    exact C_X2_findAble_24 h.1 h.2.1 (h.isQ (by omega)) ⟨by omega, fun _ => hQ σ hA h hc hj, fun hz => absurd hz (by omega)⟩
  | succ m ih =>
    intro p s σ hp hA h hc hs4 hj hR
    have hcc := h.c
    have hq6 : q < 6 := by omega
    have gq := h.q hq6
    have hp6 : p < 6 := by omega
    have h2 : 2 ^ p < 4096 := Nat.lt_of_lt_of_le (Nat.pow_lt_pow_right (by decide) (show p < 12 by omega)) (by decide)
    refine C_X2_findAble_24 h.1 h.2.1 (h.isQ hq6) ⟨by omega, fun hz => absurd hz (by omega), fun _ => ⟨fun hz => absurd (gq.2.2.1.trans h0) hz, fun _ => ⟨by omega, by omega, ?_⟩⟩⟩
    rw [gq.1, hmt, show ((q : Int)).toNat = q by omega, hc, show (p : Int) + 1 = ((p + 1 : Nat) : Int) by omega]
    have stp : ∀ (σ1 : mS) (s' : Nat), Agk D85 σ σ1 → s' < 4096 → s' ||| bitsF (fun p => ansY B Y p mt) m (p + 1) = R → WP X (d + 7) (0, 0) MX2_findAble 24 [(0, vP (some 82)), (1, vP (some y)), (2, vI (q : Int)), (3, vP (some (y + 11 + 3 * q))), (4, vI ((p + 1 : Nat) : Int))] [] (sI σ1 103 q (s' : Int)) Q := fun σ1 s' hA1 hl hR' => by
      have hs2 : Sh (sI σ1 103 q (s' : Int)) := sh_I hA1.1 (by omega) (hA1.1.k (a := 103) rfl) (Or.inl (by decide))
      have hA2 : Agk DFn σ (sI σ1 103 q (s' : Int)) := (hA1.mono D85_Fn).sI hs2 (Or.inr (Or.inr ⟨by decide, by decide⟩))
      refine ih (p + 1) s' _ (by omega) (DFn_tr hA hA2) (h.fF hA2) (by rw [sI_at, if_pos ⟨rfl, rfl⟩]) hl (fun j hne => ?_) hR'
      rw [sI_at, if_neg (by omega), hA1.2.2 103 j (by unfold D85; omega)]
      exact hj j hne
    refine c_ansNow h (by omega) hm4 (fun σ1 hA1 => ⟨_, rfl, hA1.1, fun hz => ?_, fun hz => ?_⟩)
    · rw [bitsF_n (f := fun p => ansY B Y p mt) hz] at hR
      rw [show (0 : Int) = ((0 : Nat) : Int) from rfl, bor_n (by omega) (by omega), Nat.or_zero]
      exact stp σ1 s hA1 hs4 hR
    · rw [bitsF_y (f := fun p => ansY B Y p mt) hz] at hR
      rw [bshl_1 p (by omega), bor_n (by omega) (by omega)]
      exact stp σ1 _ hA1 (or_lt hs4 h2) (by rw [Nat.or_assoc]; exact hR)
theorem c_ableL {σ0 : mS} (hQ : ∀ σ', Agk DFn σ0 σ' → (∀ q, q < 6 → σ'.2.1 103 q = (ablN B Y q : Int)) → Q none σ') : ∀ (m q : Nat) (σ : mS), q + m = 6 → Agk DFn σ0 σ → YB σ y Y B → (∀ j, j < q → σ.2.1 103 j = (ablN B Y j : Int)) → WP X (d + 7) (0, 0) MX2_findAble 2 [(0, vP (some 82)), (1, vP (some y)), (2, vI (q : Int))] [] σ Q := by
  intro m
  induction m with
  | zero =>
    intro q σ hq hA h hj
    exact C_X2_findAble_2 h.1 h.2.1 ⟨by omega, fun _ => hQ σ hA (fun j hj2 => hj j (by omega)), fun hz => absurd hz (by omega)⟩
  | succ m ih =>
    intro q σ hq hA h hj
    have hs := h.1
    have hcc := h.c
    have hq6 : q < 6 := by omega
    have hs2 : Sh (sI σ 103 q 0) := sh_I hs (by decide) (hs.k (a := 103) rfl) (Or.inl (by decide))
    have hA2 : Agk DFn σ (sI σ 103 q 0) := (Agk.rf hs).sI hs2 (Or.inr (Or.inr ⟨by decide, by decide⟩))
    have h2 := h.fF hA2
    have nx : ∀ σ1, Agk DFn (sI σ 103 q 0) σ1 → YB σ1 y Y B → σ1.2.1 103 q = (ablN B Y q : Int) → (∀ j, j ≠ q → σ1.2.1 103 j = (sI σ 103 q 0).2.1 103 j) → WP X (d + 7) (0, 0) MX2_findAble 2 [(0, vP (some 82)), (1, vP (some y)), (2, vI ((q : Int) + 1))] [] σ1 Q := fun σ1 hA1 h1 e1 e2 => by
      rw [show (q : Int) + 1 = ((q + 1 : Nat) : Int) by omega]
      refine ih (q + 1) σ1 (by omega) (DFn_tr hA (DFn_tr hA2 hA1)) h1 (fun j hj2 => ?_)
      by_cases hz : j = q
      · rw [hz]; exact e1
      · rw [e2 j hz, sI_at, if_neg (by omega)]
        exact hj j (by omega)
    have z0 : (sI σ 103 q 0).2.1 103 q = 0 := by rw [sI_at, if_pos ⟨rfl, rfl⟩]
    refine C_X2_findAble_2 hs h.2.1 ⟨by omega, fun hz => absurd hz (by omega), fun _ => ?_⟩
    by_cases hl : (q : Int) < Y 125 6
    · have gq := h2.q hq6
      have wq := h.2.2.2.1.q hq6
      obtain ⟨mt, hmt⟩ : ∃ n : Nat, Y 131 q = (n : Int) := ⟨(Y 131 q).toNat, by omega⟩
      refine c_questionY h hl ⟨_, rfl, hs, by omega, by omega, ?_⟩
      rw [show ((q : Int)).toNat = q by omega]
      by_cases h0 : Y 133 q = 0
      · refine c_able24 (σ0 := sI σ 103 q 0) (R := ablN B Y q) hl h0 hmt (by omega) nx (Y 125 0).toNat 0 0 _ (by omega) (Agk.rf hs2) h2 z0 (by decide) (fun _ _ => rfl) ?_
        unfold ablN
        rw [if_pos ⟨hl, h0⟩, hmt, show ((mt : Int)).toNat = mt by omega, Nat.zero_or]
      · have e0 : ablN B Y q = 0 := by unfold ablN; rw [if_neg (fun q' => h0 q'.2)]
        have key := nx _ (Agk.rf hs2) h2 (by rw [z0, e0]; rfl) (fun _ _ => rfl)
        exact C_X2_findAble_24 hs2 h.2.1 (h.isQ hq6) ⟨by decide, fun _ => key, fun _ => ⟨fun _ => key, fun hz => absurd (gq.2.2.1.symm.trans hz) h0⟩⟩
    · have e0 : ablN B Y q = 0 := by unfold ablN; rw [if_neg (fun q' => hl q'.1)]
      refine c_questionN h (by omega) (by omega) ⟨_, rfl, hs, by omega, by omega, ?_⟩
      rw [show ((q : Int)).toNat = q by omega]
      exact C_X2_findAble_24n hs2 h.2.1 ⟨by decide, nx _ (Agk.rf hs2) h2 (by rw [z0, e0]; rfl) (fun _ _ => rfl)⟩
theorem c_able (h : YB σ y Y B) (hQ : ∀ σ', Agk DFn σ σ' → (∀ q, q < 6 → σ'.2.1 103 q = (ablN B Y q : Int)) → Q none σ') : CALL X (d + 7) (0, 0) MX2_findAble [vP (some 82), vP (some y)] σ Q :=
  C_X2_findAble h.1 h.2.1 (c_ableL (σ0 := σ) hQ 6 0 σ rfl (Agk.rf h.1) h (fun j hj => absurd hj (by omega)))
def anyP (f : Nat → Bool) (s : Nat) : Nat → Nat → Bool
  | 0, _ => false
  | m + 1, p => (s.testBit p && f p) || anyP f s m (p + 1)
theorem anyP_t {f : Nat → Bool} {s : Nat} : ∀ {m p : Nat}, anyP f s m p = true → ∃ k, p ≤ k ∧ k < p + m ∧ s.testBit k = true ∧ f k = true
  | 0, _, h => by cases h
  | m + 1, p, h => by
    simp only [anyP, Bool.or_eq_true, Bool.and_eq_true] at h
    rcases h with h | h
    · exact ⟨p, Nat.le_refl _, by omega, h.1, h.2⟩
    · obtain ⟨k, k1, k2, k3⟩ := anyP_t h
      exact ⟨k, by omega, by omega, k3⟩
theorem anyP_f {f : Nat → Bool} {s : Nat} : ∀ {m p : Nat}, anyP f s m p = false → ∀ k, p ≤ k → k < p + m → (s.testBit k && f k) = false
  | 0, _, _, k, k1, k2 => absurd k2 (by omega)
  | m + 1, p, h, k, k1, k2 => by
    simp only [anyP, Bool.or_eq_false_iff] at h
    by_cases hz : k = p
    · rw [hz]; exact h.1
    · exact anyP_f h.2 k (by omega) (by omega)
theorem any_bits (f : Nat → Bool) (s m : Nat) : (bitsF f m 0 &&& s = 0) ↔ anyP f s m 0 = false := by
  constructor
  · intro h
    cases ha : anyP f s m 0 with
    | false => rfl
    | true =>
      obtain ⟨k, k1, k2, k3, k4⟩ := anyP_t ha
      have := congrArg (fun n => n.testBit k) h
      simp only [Nat.testBit_and, Nat.zero_testBit, bitsF_bit] at this
      rw [k3, k4, decide_eq_true (by omega)] at this
      cases this
  · intro h
    apply Nat.eq_of_testBit_eq
    intro k
    rw [Nat.testBit_and, bitsF_bit, Nat.zero_testBit]
    by_cases hk : k < m
    · have := anyP_f h k (by omega) (by omega)
      revert this
      cases s.testBit k <;> cases f k <;> simp
    · rw [decide_eq_false (by omega)]
      rfl
def allB (f : Nat → Bool) : Nat → Nat → Bool
  | 0, _ => true
  | m + 1, q => f q && allB f m (q + 1)
theorem allB_add (f : Nat → Bool) : ∀ n k q, allB f (n + k) q = (allB f n q && allB f k (q + n))
  | 0, k, q => by
    rw [Nat.zero_add]
    simp only [allB, Bool.true_and, Nat.add_zero]
  | n + 1, k, q => by
    rw [show n + 1 + k = (n + k) + 1 by omega]
    simp only [allB]
    rw [allB_add f n k (q + 1), Bool.and_assoc, show q + 1 + n = q + (n + 1) by omega]
theorem allB_true {f : Nat → Bool} : ∀ m q, (∀ k, q ≤ k → f k = true) → allB f m q = true
  | 0, _, _ => rfl
  | m + 1, q, h => by
    simp only [allB]
    rw [h q (Nat.le_refl _), allB_true m (q + 1) (fun k hk => h k (by omega))]
    rfl
/-- are the guards of s enough for question q -/
def enoQ (B : List mCl) (Y : mY) (s q : Nat) : Bool := !(decide ((q : Int) < Y 125 6) && soF Y 0 q) || anyP (fun p => ansY B Y p (Y 131 q).toNat) s (Y 125 0).toNat 0
def enoG (B : List mCl) (Y : mY) : Nat → Bool := fun s => allB (enoQ B Y s) (Y 125 6).toNat 0
theorem enoG_6 {nb : Int} (h : WFY nb Y) (s : Nat) : allB (enoQ B Y s) 6 0 = enoG B Y s := by
  have h6 := h.2.1
  unfold enoG
  have := allB_add (enoQ B Y s) (Y 125 6).toNat (6 - (Y 125 6).toNat) 0
  rw [show (Y 125 6).toNat + (6 - (Y 125 6).toNat) = 6 by omega] at this
  have e : allB (enoQ B Y s) (6 - (Y 125 6).toNat) (0 + (Y 125 6).toNat) = true := allB_true _ _ (fun k hk => by
    unfold enoQ
    rw [decide_eq_false (by omega)]
    rfl)
  rw [this, e, Bool.and_true]
theorem c_allQL (h : YB σ y Y B) (hab : ∀ q, q < 6 → σ.2.1 103 q = (ablN B Y q : Int)) {s : Nat} (hs4 : s < 4096) {R : Bool} (hQ : Q (some (vI (bB R))) σ) : ∀ (m q : Nat), q + m = 6 → allB (enoQ B Y s) m q = R → WP X (d + 2) (0, 0) MX2_answersAll 2 [(0, vP (some 82)), (1, vP (some y)), (2, vI (s : Int)), (3, vI (q : Int))] [] σ Q := by
  have hs := h.1
  intro m
  induction m with
  | zero =>
    intro q hq hR
    simp only [allB] at hR
    subst hR
    exact C_X2_answersAll_2 hs h.2.1 ⟨by omega, fun _ => hQ, fun hz => absurd hz (by omega)⟩
  | succ m ih =>
    intro q hq hR
    have hq6 : q < 6 := by omega
    simp only [allB] at hR
    have yes : enoQ B Y s q = true → WP X (d + 2) (0, 0) MX2_answersAll 2 [(0, vP (some 82)), (1, vP (some y)), (2, vI (s : Int)), (3, vI ((q : Int) + 1))] [] σ Q := fun he => by
      rw [he, Bool.true_and] at hR
      rw [show (q : Int) + 1 = ((q + 1 : Nat) : Int) by omega]
      exact ih (q + 1) (by omega) hR
    refine C_X2_answersAll_2 hs h.2.1 ⟨by omega, fun hz => absurd hz (by omega), fun _ => ?_⟩
    by_cases hl : (q : Int) < Y 125 6
    · refine c_isWait h hl ⟨_, rfl, hs, fun hz => yes ?_, fun hz => ⟨by omega, by omega, ?_⟩⟩
      · unfold enoQ
        rw [hz, Bool.and_false]
        rfl
      · have ha := ablN_lt (B := B) h.2.2.2.1 q
        rw [show ((q : Int)).toNat = q by omega, hab q hq6, band_n (by omega)]
        have h0 : Y 133 q = 0 := of_decide_eq_true hz
        have ee : enoQ B Y s q = anyP (fun p => ansY B Y p (Y 131 q).toNat) s (Y 125 0).toNat 0 := by
          unfold enoQ
          rw [hz, decide_eq_true hl]
          rfl
        have eb : ablN B Y q = bitsF (fun p => ansY B Y p (Y 131 q).toNat) (Y 125 0).toNat 0 := by
          unfold ablN
          rw [if_pos ⟨hl, h0⟩]
        have hab2 := any_bits (fun p => ansY B Y p (Y 131 q).toNat) s (Y 125 0).toNat
        rw [eb]
        refine ⟨fun hz2 => yes ?_, fun hz2 => ?_⟩
        · rw [ee]
          cases ha2 : anyP (fun p => ansY B Y p (Y 131 q).toNat) s (Y 125 0).toNat 0 with
          | true => rfl
          | false => exact absurd (by rw [hab2.mpr ha2]; rfl) hz2
        · rw [ee, hab2.mp (by omega), Bool.false_and] at hR
          rw [hR]
          exact hQ
    · refine c_isWaitN h (by omega) (by omega) ⟨_, rfl, hs, fun _ => yes ?_, fun hz => by cases hz⟩
      unfold enoQ
      rw [decide_eq_false hl]
      rfl
def few7 (r : Option Nat) : Int := match r with
  | none => 7
  | some b => (pc b : Int)
theorem pc_64 : ∀ s, s < 64 → pc s ≤ 6 := by decide +kernel
theorem btr_few7 {r : Option Nat} {s : Nat} (hs : s < 64) : btr r s = decide ((pc s : Int) < few7 r) := by
  have := pc_64 s hs
  cases r with
  | none => exact (decide_eq_true (show (pc s : Int) < 7 by omega)).symm
  | some b => exact decide_eq_decide.mpr (show pc s < pc b ↔ (pc s : Int) < (pc b : Int) by omega)
theorem two_G : ∀ G : Nat, G ≤ 6 → bshl 1 G = ((2 ^ G : Nat) : Int) ∧ 2 ^ G ≤ 64 := by decide
theorem c_enoL (h : YB σ y Y B) (hab : ∀ q, q < 6 → σ.2.1 103 q = (ablN B Y q : Int)) {G : Nat} (hG : Y 125 0 = (G : Int)) {R : Int} (hQ : Q (some (vI R)) σ) : ∀ (m s : Nat) (r : Option Nat), s + m = 2 ^ G → (∀ b, r = some b → b < 4096) → optI (bst (enoG B Y) m s r) = R → WP X (d + 3) (0, 0) MX2_enough 14 [(0, vP (some 82)), (1, vP (some y)), (2, vI (optI r)), (3, vI (few7 r)), (4, vI (s : Int))] [] σ Q := by
  have hs := h.1
  have hc := h.c
  have hG2 := two_G G (by omega)
  intro m
  induction m with
  | zero =>
    intro s r hm hb hR
    simp only [bst] at hR
    subst hR
    refine C_X2_enough_14 hs h.2.1 ?_
    rw [hc.1.1, hG, hG2.1]
    exact ⟨by omega, fun _ => hQ, fun hz => absurd hz (by omega)⟩
  | succ m ih =>
    intro s r hm hb hR
    have hs64 : s < 64 := by omega
    have hps := pc_64 s hs64
    have hfr : -10 ≤ few7 r ∧ few7 r ≤ 20 := by
      cases r with
      | none => decide
      | some b =>
        have := pc_le b
        simp only [few7]
        omega
    refine C_X2_enough_14 hs h.2.1 ?_
    rw [hc.1.1, hG, hG2.1, show (s : Int) + 1 = ((s + 1 : Nat) : Int) by omega]
    refine ⟨by omega, fun hz => absurd hz (by omega), fun _ => c_bitCount (by omega) ⟨_, rfl, hs, by omega, by omega, fun hz => ?_, fun hz => ?_⟩⟩
    · rw [bst_no1 (by rw [btr_few7 hs64, decide_eq_false (by omega)])] at hR
      exact ih (s + 1) r (by omega) hb hR
    · have hbt : btr r s = true := by rw [btr_few7 hs64, decide_eq_true (by omega)]
      refine C_X2_answersAll hs h.2.1 (c_allQL (d := d) h hab (s := s) (by omega) ⟨_, rfl, hs, fun hz2 => ?_, fun hz2 => c_bitCount (by omega) ⟨_, rfl, hs, ?_⟩⟩ 6 0 rfl rfl)
      · rw [enoG_6 h.2.2.2.1] at hz2
        rw [bst_no2 hz2] at hR
        exact ih (s + 1) r (by omega) hb hR
      · rw [enoG_6 h.2.2.2.1] at hz2
        rw [bst_yes hbt hz2] at hR
        exact ih (s + 1) (some s) (by omega) (fun b hb2 => by cases hb2; omega) hR
theorem c_enough (h : YB σ y Y B) (hQ : ∀ σ', Agk DFn σ σ' → Q (some (vI (optI (bst (enoG B Y) (2 ^ (Y 125 0).toNat) 0 none)))) σ') : CALL X (d + 8) (0, 0) MX2_enough [vP (some 82), vP (some y)] σ Q := by
  have hc := h.c
  obtain ⟨G, hG⟩ : ∃ n : Nat, Y 125 0 = (n : Int) := ⟨(Y 125 0).toNat, by omega⟩
  rw [hG, show ((G : Int)).toNat = G by omega] at hQ
  exact C_X2_enough h.1 h.2.1 (c_able h (fun σ1 hA hab => ⟨rfl, hA.1, c_enoL (d := d + 5) (h.fF hA) hab hG (hQ σ1 hA) (2 ^ G) 0 none (Nat.zero_add _) (fun b hb => by cases hb) rfl⟩))
theorem m_eno74 {σ0 : mS} (h0 : MB σ0 B) {q s mt : Nat} (hq : q < 6) (hs64 : s < 64) (hmt : σ0.2.1 131 q = (mt : Int)) (hm4 : mt < 4096) {x1 : Int} {R : Bool} (hQ : ∀ σ', Agk D155 σ0 σ' → WP X (d + 6) (0, 0) MX11_enough 41 [(0, vP (some 125)), (1, vI x1), (2, vI (s : Int)), (3, vI (bB R)), (4, vI ((q : Int) + 1))] [] σ' Q) : ∀ (m p : Nat) (b : Bool) (σ : mS), (p : Int) + m = σ0.2.1 125 0 → Agk D155 σ0 σ → (b || anyP (fun p => ansY B σ0.2.1 p mt) s m p) = R → WP X (d + 6) (0, 0) MX11_enough 74 [(0, vP (some 125)), (1, vI x1), (2, vI (s : Int)), (4, vI (q : Int)), (5, vI (bB b)), (6, vI (p : Int))] [] σ Q := by
  have w0 := h0.2.1.1
  intro m
  induction m with
  | zero =>
    intro p b σ hp hA hR
    simp only [anyP, Bool.or_false] at hR
    subst hR
    refine C_X11_enough_74 hA.1 ⟨by omega, fun _ => hQ σ hA, fun hz => absurd hz ?_⟩
    rw [hA.n155 (a := 125) (by decide)]
    omega
  | succ m ih =>
    intro p b σ hp hA hR
    have hp6 : p < 6 := by omega
    simp only [anyP] at hR
    refine C_X11_enough_74 hA.1 ⟨by omega, fun hz => absurd hz ?_, fun _ => ?_⟩
    · rw [hA.n155 (a := 125) (by decide)]
      omega
    · rw [bit_1 (by omega) (by omega), show (p : Int) + 1 = ((p + 1 : Nat) : Int) by omega, show ((q : Int)).toNat = q by omega, hA.n155 (a := 131) (by decide), hmt]
      refine ⟨fun hz => ?_, fun hz => ⟨by omega, by omega, ?_⟩⟩
      · have : s.testBit p = false := by
          cases hb : s.testBit p with
          | false => rfl
          | true => rw [hb] at hz; exact absurd rfl hz
        rw [this, Bool.false_and, Bool.false_or] at hR
        exact ih (p + 1) b σ (by omega) hA hR
      · have : s.testBit p = true := by
          cases hb : s.testBit p with
          | true => rfl
          | false => rw [hb] at hz; exact absurd hz (by decide)
        rw [this, Bool.true_and] at hR
        refine m_ans (h0.f155 hA) hp6 hm4 (fun σ1 hA1 => ⟨_, rfl, hA1.1, fun hz2 => ?_, fun hz2 => ?_⟩)
        all_goals rw [ansY_155 hA] at hz2
        · rw [hz2, Bool.false_or] at hR
          exact ih (p + 1) b σ1 (by omega) (D155_tr hA hA1) hR
        · rw [hz2, Bool.true_or, Bool.or_true] at hR
          exact ih (p + 1) true σ1 (by omega) (D155_tr hA hA1) (by rw [Bool.true_or]; exact hR)
theorem m_eno41 {σ0 : mS} (h0 : MB σ0 B) {s : Nat} (hs64 : s < 64) {x1 : Int} {N : Nat} (hN : σ0.2.1 125 6 = (N : Int)) {R : Bool} (hQ0 : R = false → ∀ σ', Agk D155 σ0 σ' → WP X (d + 6) (0, 0) MX11_enough 5 [(0, vP (some 125)), (1, vI x1), (2, vI ((s : Int) + 1))] [] σ' Q) (hQ1 : R = true → ∀ σ', Agk D155 σ0 σ' → WP X (d + 6) (0, 0) MX11_enough 5 [(0, vP (some 125)), (1, vI (s : Int)), (2, vI ((s : Int) + 1))] [] σ' Q) : ∀ (m q : Nat) (b : Bool) (σ : mS), q + m = N → Agk D155 σ0 σ → (b && allB (enoQ B σ0.2.1 s) m q) = R → WP X (d + 6) (0, 0) MX11_enough 41 [(0, vP (some 125)), (1, vI x1), (2, vI (s : Int)), (3, vI (bB b)), (4, vI (q : Int))] [] σ Q := by
  have w6 := h0.2.1.2.1
  have w0 := h0.2.1.1
  intro m
  induction m with
  | zero =>
    intro q b σ hq hA hR
    simp only [allB, Bool.and_true] at hR
    subst hR
    have e6 : σ.2.1 125 6 = σ0.2.1 125 6 := hA.n155 (by decide)
    exact C_X11_enough_41 hA.1 ⟨by omega, fun _ => ⟨bB_r, fun hz => hQ0 (bB_0 hz) σ hA, fun hz => hQ1 (bB_1 hz) σ hA⟩, fun hz => absurd hz (by omega)⟩
  | succ m ih =>
    intro q b σ hq hA hR
    have hq6 : q < 6 := by omega
    have e6 : σ.2.1 125 6 = σ0.2.1 125 6 := hA.n155 (by decide)
    have wq := h0.2.1.q hq6
    obtain ⟨mt, hmt⟩ : ∃ n : Nat, σ0.2.1 131 q = (n : Int) := ⟨(σ0.2.1 131 q).toNat, by omega⟩
    simp only [allB] at hR
    refine C_X11_enough_41 hA.1 ⟨by omega, fun hz => absurd hz (by omega), fun _ => ⟨bB_r, fun hz => ?_, fun hz => ⟨by omega, by omega, ?_⟩⟩⟩
    · rw [bB_0 hz, Bool.false_and] at hR
      exact hQ0 hR.symm σ hA
    · have hb := bB_1 hz
      rw [hb, Bool.true_and] at hR
      rw [show ((q : Int)).toNat = q by omega, hA.n155 (a := 133) (by decide)]
      have run : ∀ b0 : Bool, (b0 || anyP (fun p => ansY B σ0.2.1 p mt) s (σ0.2.1 125 0).toNat 0) = enoQ B σ0.2.1 s q → WP X (d + 6) (0, 0) MX11_enough 74 [(0, vP (some 125)), (1, vI x1), (2, vI (s : Int)), (4, vI (q : Int)), (5, vI (bB b0)), (6, vI 0)] [] σ Q := fun b0 hb0 => by
        refine m_eno74 (σ0 := σ0) h0 hq6 hs64 hmt (by omega) (R := enoQ B σ0.2.1 s q) (fun σ1 hA1 => ?_) (σ0.2.1 125 0).toNat 0 b0 σ (by omega) hA hb0
        rw [show (q : Int) + 1 = ((q + 1 : Nat) : Int) by omega]
        exact ih (q + 1) _ σ1 (by omega) hA1 hR
      refine ⟨fun h0' => run false ?_, fun h0' => run true ?_⟩
      · unfold enoQ
        rw [decide_eq_true (by omega), show soF σ0.2.1 0 q = true from decide_eq_true h0', hmt, show ((mt : Int)).toNat = mt by omega]
        rfl
      · unfold enoQ
        rw [show soF σ0.2.1 0 q = false from decide_eq_false h0', Bool.and_false]
        rfl
theorem m_enoL {σ0 : mS} (h0 : MB σ0 B) {G : Nat} (hG : σ0.2.1 125 0 = (G : Int)) {R : Int} (hQ : ∀ σ', Agk D155 σ0 σ' → Q (some (vI R)) σ') : ∀ (m s : Nat) (r : Option Nat) (σ : mS), s + m = 2 ^ G → (∀ b, r = some b → b < 4096) → Agk D155 σ0 σ → optI (bst (enoG B σ0.2.1) m s r) = R → WP X (d + 6) (0, 0) MX11_enough 5 [(0, vP (some 125)), (1, vI (optI r)), (2, vI (s : Int))] [] σ Q := by
  have w0 := h0.2.1.1
  have w6 := h0.2.1.2.1
  have hG2 := two_G G (by omega)
  obtain ⟨N, hN⟩ : ∃ n : Nat, σ0.2.1 125 6 = (n : Int) := ⟨(σ0.2.1 125 6).toNat, by omega⟩
  have eg : ∀ s, enoG B σ0.2.1 s = allB (enoQ B σ0.2.1 s) N 0 := fun s => by
    unfold enoG
    rw [hN, show ((N : Int)).toNat = N by omega]
  intro m
  induction m with
  | zero =>
    intro s r σ hm hb hA hR
    simp only [bst] at hR
    subst hR
    refine C_X11_enough_5 hA.1 ?_
    rw [hA.n155 (a := 125) (by decide), hG, hG2.1]
    exact ⟨by omega, fun _ => hQ σ hA, fun hz => absurd hz (by omega)⟩
  | succ m ih =>
    intro s r σ hm hb hA hR
    have hs64 : s < 64 := by omega
    have hr := optI_r hb
    have go : ∀ b : Bool, b = btr r s → WP X (d + 6) (0, 0) MX11_enough 41 [(0, vP (some 125)), (1, vI (optI r)), (2, vI (s : Int)), (3, vI (bB b)), (4, vI 0)] [] σ Q := fun b hbt => by
      refine m_eno41 (σ0 := σ0) h0 hs64 hN (R := (b && allB (enoQ B σ0.2.1 s) N 0)) (fun hf σ1 hA1 => ?_) (fun ht σ1 hA1 => ?_) N 0 b σ (Nat.zero_add _) hA rfl
      all_goals rw [show (s : Int) + 1 = ((s + 1 : Nat) : Int) by omega]
      · rw [Bool.and_eq_false_iff] at hf
        refine ih (s + 1) r σ1 (by omega) hb hA1 ?_
        rcases hf with hf | hf
        · rw [bst_no1 (hbt.symm.trans hf)] at hR
          exact hR
        · rw [bst_no2 ((eg s).trans hf)] at hR
          exact hR
      · rw [Bool.and_eq_true] at ht
        rw [bst_yes (hbt.symm.trans ht.1) ((eg s).trans ht.2)] at hR
        exact ih (s + 1) (some s) σ1 (by omega) (fun b hb2 => by cases hb2; omega) hA1 hR
    refine C_X11_enough_5 hA.1 ?_
    rw [hA.n155 (a := 125) (by decide), hG, hG2.1]
    refine ⟨by omega, fun hz => absurd hz (by omega), fun _ => ⟨by omega, fun hz => ?_, fun hz => ?_⟩⟩
    · have hr0 := optI_n hz
      exact go true (by rw [hr0]; rfl)
    · obtain ⟨b, rfl⟩ := optI_s hz
      have hb4 := hb b rfl
      have hpb := pc_le b
      have hps := pc_le s
      refine c_bitCount (by omega) ⟨_, rfl, hA.1, c_bitCount hb4 ⟨_, rfl, hA.1, by omega, by omega, fun hl => ?_, fun hl => ?_⟩⟩
      · exact go false (btr_n (by omega)).symm
      · exact go true (btr_y (by omega)).symm
theorem m_enough (h : MB σ B) (hQ : ∀ σ', Agk D155 σ σ' → Q (some (vI (optI (bst (enoG B σ.2.1) (2 ^ (σ.2.1 125 0).toNat) 0 none)))) σ') : CALL X (d + 6) (0, 0) MX11_enough [vP (some 125)] σ Q := by
  have w0 := h.2.1.1
  obtain ⟨G, hG⟩ : ∃ n : Nat, σ.2.1 125 0 = (n : Int) := ⟨(σ.2.1 125 0).toNat, by omega⟩
  rw [hG, show ((G : Int)).toNat = G by omega] at hQ
  exact C_X11_enough h.1 (m_enoL h hG hQ (2 ^ G) 0 none σ (Nat.zero_add _) (fun b hb => by cases hb) (Agk.rf h.1) rfl)
end ENOUGH
