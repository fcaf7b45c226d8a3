/-! sets of matters: the fewest, and of these the least -/
section SETS
def sub (s U : Nat) : Prop := ∀ i, s.testBit i = true → U.testBit i = true
theorem tb12 {n i : Nat} (h : n < 4096) (hi : 12 ≤ i) : n.testBit i = false :=
  Nat.testBit_lt_two_pow (Nat.lt_of_lt_of_le h (show 2 ^ 12 ≤ 2 ^ i from Nat.pow_le_pow_right (by decide) hi))
theorem pcA_le' {s U : Nat} : ∀ k, (∀ i, i < k → s.testBit i = true → U.testBit i = true) → pcA s k ≤ pcA U k
  | 0, _ => Nat.le_refl _
  | k + 1, h => by
    have ih := pcA_le' k (fun i hi => h i (by omega))
    have hk := h k (by omega)
    simp only [pcA]
    have : (s.testBit k).toNat ≤ (U.testBit k).toNat := by
      revert hk
      cases s.testBit k <;> cases U.testBit k <;> simp
    omega
theorem pc_sub {s U : Nat} (h : sub s U) : pc s ≤ pc U := pcA_le' 12 (fun i _ => h i)
theorem pcA_ins {g x : Nat} (hx : g.testBit x = false) : ∀ k, pcA (g ||| 2 ^ x) k = pcA g k + (if x < k then 1 else 0)
  | 0 => rfl
  | k + 1 => by
    simp only [pcA]
    rw [pcA_ins hx k, Nat.testBit_or, Nat.testBit_two_pow]
    by_cases hz : x = k
    · subst hz
      rw [hx, if_neg (by omega), if_pos (by omega), decide_eq_true rfl]
      rfl
    · rw [decide_eq_false hz, Bool.or_false]
      by_cases hl : x < k
      · rw [if_pos hl, if_pos (by omega)]
        omega
      · rw [if_neg hl, if_neg (by omega)]
        omega
theorem lobA_spec (n : Nat) : ∀ k, (lobA n k = 0 ∧ ∀ j, j < k → n.testBit j = false) ∨ ∃ x, x < k ∧ lobA n k = 2 ^ x ∧ n.testBit x = true ∧ ∀ j, j < x → n.testBit j = false
  | 0 => Or.inl ⟨rfl, fun j h => absurd h (by omega)⟩
  | k + 1 => by
    simp only [lobA]
    rcases lobA_spec n k with ⟨h1, h2⟩ | ⟨x, h1, h2, h3, h4⟩
    · rw [if_pos h1]
      by_cases hk : n.testBit k = true
      · rw [if_pos hk]
        exact Or.inr ⟨k, by omega, rfl, hk, h2⟩
      · rw [if_neg hk]
        refine Or.inl ⟨rfl, fun j hj => ?_⟩
        by_cases hz : j = k
        · rw [hz]
          cases hq : n.testBit k
          · rfl
          · exact absurd hq hk
        · exact h2 j (by omega)
    · have : 2 ^ x ≠ 0 := Nat.pos_iff_ne_zero.mp (Nat.two_pow_pos x)
      rw [h2, if_neg this]
      exact Or.inr ⟨x, by omega, rfl, h3, h4⟩
theorem lob_spec {n : Nat} (hn : n < 4096) : (n = 0 ∧ lob n = 0) ∨ ∃ x, x < 12 ∧ lob n = 2 ^ x ∧ n.testBit x = true ∧ ∀ j, j < x → n.testBit j = false := by
  rcases lobA_spec n 12 with ⟨h1, h2⟩ | h
  · refine Or.inl ⟨Nat.eq_of_testBit_eq (fun i => ?_), h1⟩
    rw [Nat.zero_testBit]
    by_cases hi : i < 12
    · exact h2 i hi
    · exact tb12 hn (by omega)
  · exact Or.inr h
/-- the i least ones of U, learnt one by one -/
def grd (U : Nat) : Nat → Nat
  | 0 => 0
  | i + 1 => grd U i ||| lob (nd U (grd U i))
theorem and_sub {g U : Nat} (h : sub g U) : U &&& g = g := by
  apply Nat.eq_of_testBit_eq
  intro i
  rw [Nat.testBit_and]
  have := h i
  revert this
  cases g.testBit i <;> cases U.testBit i <;> simp
theorem grd_spec {U : Nat} (hU : U < 4096) : ∀ i, grd U i < 4096 ∧ sub (grd U i) U ∧ (∀ x z, (grd U i).testBit x = true → U.testBit z = true → z < x → (grd U i).testBit z = true) ∧ pc (grd U i) = min i (pc U)
  | 0 => by
    refine ⟨show (0 : Nat) < 4096 by decide, fun i h => ?_, fun x z h => ?_, ?_⟩
    · rw [show grd U 0 = 0 from rfl, Nat.zero_testBit] at h
      cases h
    · rw [show grd U 0 = 0 from rfl, Nat.zero_testBit] at h
      cases h
    · rw [show grd U 0 = 0 from rfl, Nat.zero_min]
      decide
  | i + 1 => by
    obtain ⟨h1, h2, h3, h4⟩ := grd_spec hU i
    have hpn := pc_nd U (grd U i)
    rw [and_sub h2] at hpn
    simp only [grd]
    rcases lob_spec (nd_lt (k := grd U i) hU) with ⟨k1, k2⟩ | ⟨x, k1, k2, k3, k4⟩
    · rw [k2, Nat.or_zero]
      rw [k1] at hpn
      have : pc 0 = 0 := by decide
      exact ⟨h1, h2, h3, by omega⟩
    · rw [nd_bit] at k3
      simp only [Bool.and_eq_true, Bool.not_eq_true'] at k3
      have k4' : ∀ j, j < x → U.testBit j = true → (grd U i).testBit j = true := fun j hj hu => by
        have := k4 j hj
        rw [nd_bit, hu] at this
        revert this
        cases (grd U i).testBit j <;> simp
      have hx4 : 2 ^ x < 4096 := Nat.lt_of_lt_of_le (Nat.pow_lt_pow_right (by decide) k1) (by decide)
      rw [k2]
      have hb : ∀ j, (grd U i ||| 2 ^ x).testBit j = true ↔ (grd U i).testBit j = true ∨ x = j := fun j => by
        rw [Nat.testBit_or, Nat.testBit_two_pow]
        simp
      have hsub : sub (grd U i ||| 2 ^ x) U := fun j hj => by
        rcases (hb j).mp hj with q | q
        · exact h2 j q
        · rw [← q]; exact k3.1
      have hle := pc_sub hsub
      have hins : pc (grd U i ||| 2 ^ x) = pc (grd U i) + 1 := by
        have := pcA_ins k3.2 12
        rw [if_pos k1] at this
        exact this
      refine ⟨or_lt h1 hx4, hsub, fun a z ha hz hl => (hb z).mpr ?_, by omega⟩
      rcases (hb a).mp ha with q | q
      · exact Or.inl (h3 a z q hz hl)
      · exact Or.inl (k4' z (by omega) hz)
theorem hi_bit (a b : Nat) : ∀ k, (∀ j, k ≤ j → a.testBit j = b.testBit j) → a = b ∨ ∃ x, x < k ∧ a.testBit x ≠ b.testBit x ∧ ∀ j, x < j → a.testBit j = b.testBit j
  | 0, h => Or.inl (Nat.eq_of_testBit_eq (fun i => h i (Nat.zero_le _)))
  | k + 1, h => by
    by_cases hk : a.testBit k = b.testBit k
    · rcases hi_bit a b k (fun j hj => by
        by_cases hz : j = k
        · rw [hz]; exact hk
        · exact h j (by omega)) with q | ⟨x, q1, q2, q3⟩
      · exact Or.inl q
      · exact Or.inr ⟨x, by omega, q2, q3⟩
    · exact Or.inr ⟨k, by omega, hk, fun j hj => h j (by omega)⟩
theorem lt_tb {a b x : Nat} (ha : a.testBit x = false) (hb : b.testBit x = true) (h : ∀ j, x < j → a.testBit j = b.testBit j) : a < b := by
  have e : (a >>> x) / 2 = (b >>> x) / 2 := by
    rw [← Nat.shiftRight_succ, ← Nat.shiftRight_succ]
    apply Nat.eq_of_testBit_eq
    intro j
    rw [Nat.testBit_shiftRight, Nat.testBit_shiftRight]
    exact h _ (by omega)
  have e1 : (a >>> x).testBit 0 = false := by rw [Nat.testBit_shiftRight]; exact ha
  have e2 : (b >>> x).testBit 0 = true := by rw [Nat.testBit_shiftRight]; exact hb
  rw [Nat.testBit_zero, decide_eq_false_iff_not] at e1
  rw [Nat.testBit_zero, decide_eq_true_eq] at e2
  have hlt : a >>> x < b >>> x := by omega
  rw [Nat.shiftRight_eq_div_pow, Nat.shiftRight_eq_div_pow] at hlt
  by_cases hz : a < b
  · exact hz
  · have := Nat.div_le_div_right (c := 2 ^ x) (show b ≤ a by omega)
    omega
theorem grd_le {U s i : Nat} (hU : U < 4096) (hs : s < 4096) (hsub : sub s U) (hc : pc s = i) : grd U i ≤ s := by
  obtain ⟨h1, h2, h3, h4⟩ := grd_spec hU i
  have hps := pc_sub hsub
  rcases hi_bit (grd U i) s 12 (fun j hj => by rw [tb12 h1 hj, tb12 hs hj]) with q | ⟨x, q1, q2, q3⟩
  · exact Nat.le_of_eq q
  · cases hx : (grd U i).testBit x with
    | false =>
      have hsx : s.testBit x = true := by
        rw [hx] at q2
        revert q2
        cases s.testBit x <;> simp
      exact Nat.le_of_lt (lt_tb hx hsx q3)
    | true =>
      have hsx : s.testBit x = false := by
        rw [hx] at q2
        revert q2
        cases s.testBit x <;> simp
      have l1 : pcA s x ≤ pcA (grd U i) x := pcA_le' x (fun j hj hj2 => h3 x j hx (hsub j hj2) hj)
      have l2 : ∀ m, x + 1 + m ≤ 12 → pcA s (x + 1 + m) + 1 ≤ pcA (grd U i) (x + 1 + m) := by
        intro m
        induction m with
        | zero =>
          intro _
          simp only [Nat.add_zero, pcA]
          rw [hx, hsx]
          simp only [Bool.toNat_true, Bool.toNat_false]
          omega
        | succ m ih =>
          intro hm
          have := ih (by omega)
          rw [show x + 1 + (m + 1) = x + 1 + m + 1 by omega]
          simp only [pcA]
          rw [q3 (x + 1 + m) (by omega)]
          omega
      have := l2 (11 - x) (by omega)
      rw [show x + 1 + (11 - x) = 12 by omega] at this
      have e1 : pc s = pcA s 12 := rfl
      have e2 : pc (grd U i) = pcA (grd U i) 12 := rfl
      omega
/-- is s fewer than what was found -/
def btr (r : Option Nat) (s : Nat) : Bool := match r with
  | none => true
  | some b => decide (pc s < pc b)
def bst (g : Nat → Bool) : Nat → Nat → Option Nat → Option Nat
  | 0, _, r => r
  | m + 1, s, r => bst g m (s + 1) (if btr r s && g s then some s else r)
def optI (r : Option Nat) : Int := match r with
  | none => -5
  | some b => (b : Int)
def Bst (g : Nat → Bool) (N : Nat) (r : Option Nat) : Prop := (r = none ∧ ∀ s, s < N → g s = false) ∨ ∃ b, r = some b ∧ b < N ∧ g b = true ∧ ∀ s, s < N → g s = true → pc b ≤ pc s ∧ (pc s = pc b → b ≤ s)
theorem Bst_uniq {g : Nat → Bool} {N : Nat} {r r' : Option Nat} (h : Bst g N r) (h' : Bst g N r') : r = r' := by
  rcases h with ⟨rfl, h⟩ | ⟨b, rfl, b1, b2, b3⟩ <;> rcases h' with ⟨rfl, h'⟩ | ⟨c, rfl, c1, c2, c3⟩
  · rfl
  · rw [h c c1] at c2; cases c2
  · rw [h' b b1] at b2; cases b2
  · have k1 := b3 c c1 c2
    have k2 := c3 b b1 b2
    have k3 := k1.2 (by omega)
    have k4 := k2.2 (by omega)
    rw [Nat.le_antisymm k3 k4]
theorem bst_spec (g : Nat → Bool) : ∀ m s r, Bst g s r → Bst g (s + m) (bst g m s r)
  | 0, _, _, h => h
  | m + 1, s, r, h => by
    simp only [bst]
    rw [show s + (m + 1) = s + 1 + m by omega]
    refine bst_spec g m (s + 1) _ ?_
    rcases h with ⟨rfl, h⟩ | ⟨b, rfl, b1, b2, b3⟩
    · simp only [btr, Bool.true_and]
      cases hg : g s with
      | true =>
        rw [if_pos rfl]
        refine Or.inr ⟨s, rfl, by omega, hg, fun t ht hgt => ?_⟩
        by_cases hz : t = s
        · rw [hz]; exact ⟨Nat.le_refl _, fun _ => Nat.le_refl _⟩
        · rw [h t (by omega)] at hgt; cases hgt
      | false =>
        rw [if_neg (by decide)]
        refine Or.inl ⟨rfl, fun t ht => ?_⟩
        by_cases hz : t = s
        · rw [hz]; exact hg
        · exact h t (by omega)
    · cases hb : (btr (some b) s && g s) with
      | true =>
        rw [if_pos rfl]
        rw [Bool.and_eq_true] at hb
        have h1 : pc s < pc b := of_decide_eq_true hb.1
        refine Or.inr ⟨s, rfl, by omega, hb.2, fun t ht hgt => ?_⟩
        by_cases hz : t = s
        · rw [hz]; exact ⟨Nat.le_refl _, fun _ => Nat.le_refl _⟩
        · have := b3 t (by omega) hgt
          exact ⟨by omega, fun q => by omega⟩
      | false =>
        rw [if_neg (by decide)]
        refine Or.inr ⟨b, rfl, by omega, b2, fun t ht hgt => ?_⟩
        by_cases hz : t = s
        · rw [hz] at hgt ⊢
          have hn : ¬ pc s < pc b := fun q => by
            rw [show btr (some b) s = true from decide_eq_true q, hgt] at hb
            cases hb
          exact ⟨by omega, fun _ => by omega⟩
        · exact b3 t (by omega) hgt
/-- the first of the greedy sets that will do -/
def stC (ok : Nat → Bool) (U : Nat) : Nat → Nat → Int
  | 0, _ => -5
  | m + 1, i => if ok (grd U i) then (grd U i : Int) else stC ok U m (i + 1)
theorem stC_spec (ok : Nat → Bool) (U : Nat) : ∀ m i, (stC ok U m i = -5 ∧ ∀ j, i ≤ j → j < i + m → ok (grd U j) = false) ∨ ∃ j, i ≤ j ∧ j < i + m ∧ stC ok U m i = (grd U j : Int) ∧ ok (grd U j) = true ∧ ∀ j', i ≤ j' → j' < j → ok (grd U j') = false
  | 0, i => Or.inl ⟨rfl, fun j h1 h2 => absurd h2 (by omega)⟩
  | m + 1, i => by
    simp only [stC]
    cases ho : ok (grd U i) with
    | true => exact Or.inr ⟨i, Nat.le_refl _, by omega, by rw [if_pos rfl], ho, fun j' h1 h2 => absurd h2 (by omega)⟩
    | false =>
      rw [if_neg (by decide)]
      rcases stC_spec ok U m (i + 1) with ⟨h1, h2⟩ | ⟨j, h1, h2, h3, h4, h5⟩
      · refine Or.inl ⟨h1, fun j hj1 hj2 => ?_⟩
        by_cases hz : j = i
        · rw [hz]; exact ho
        · exact h2 j (by omega) (by omega)
      · refine Or.inr ⟨j, by omega, by omega, h3, h4, fun j' k1 k2 => ?_⟩
        by_cases hz : j' = i
        · rw [hz]; exact ho
        · exact h5 j' (by omega) k2
theorem pc_split {m kn s : Nat} (h : s &&& kn = 0) : pc (m &&& (kn ||| s)) = pc (m &&& kn) + pc (m &&& s) := by
  have hb : ∀ i, s.testBit i = true → kn.testBit i = true → False := fun i h1 h2 => by
    have := congrArg (fun n => n.testBit i) h
    simp only [Nat.testBit_and, Nat.zero_testBit] at this
    rw [h1, h2] at this
    cases this
  have : ∀ k, pcA (m &&& (kn ||| s)) k = pcA (m &&& kn) k + pcA (m &&& s) k := by
    intro k
    induction k with
    | zero => rfl
    | succ k ih =>
      simp only [pcA, Nat.testBit_and, Nat.testBit_or]
      have := hb k
      have hh : (m.testBit k && (kn.testBit k || s.testBit k)).toNat = (m.testBit k && kn.testBit k).toNat + (m.testBit k && s.testBit k).toNat := by
        revert this
        cases m.testBit k <;> cases kn.testBit k <;> cases s.testBit k <;> simp
      omega
  exact this 12
theorem st_eq {F : Nat → Bool} {kn m : Nat} (hm : m < 4096) {r : Option Nat} (h : Bst (fun s => decide (s &&& kn = 0) && F (pc (m &&& (kn ||| s)))) 4096 r) : stC (fun s => F (pc (m &&& (kn ||| s)))) (nd m kn) 13 0 = optI r := by
  have hU : nd m kn < 4096 := nd_lt hm
  have gs := fun i => grd_spec hU i
  have hpc := pc_le (nd m kn)
  have dis : ∀ i, grd (nd m kn) i &&& kn = 0 := fun i => by
    apply Nat.eq_of_testBit_eq
    intro j
    rw [Nat.testBit_and, Nat.zero_testBit]
    have := (gs i).2.1 j
    rw [nd_bit] at this
    revert this
    cases (grd (nd m kn) i).testBit j <;> cases m.testBit j <;> cases kn.testBit j <;> simp
  have inm : ∀ i, m &&& grd (nd m kn) i = grd (nd m kn) i := fun i => and_sub (fun j hj => by
    have := (gs i).2.1 j hj
    rw [nd_bit] at this
    revert this
    cases m.testBit j <;> simp)
  have cnt : ∀ i, pc (m &&& (kn ||| grd (nd m kn) i)) = pc (m &&& kn) + min i (pc (nd m kn)) := fun i => by
    rw [pc_split (dis i), inm, (gs i).2.2.2]
  have subU : ∀ s, s &&& kn = 0 → sub (m &&& s) (nd m kn) := fun s hs j hj => by
    rw [Nat.testBit_and] at hj
    have := congrArg (fun n => n.testBit j) hs
    simp only [Nat.testBit_and, Nat.zero_testBit] at this
    rw [nd_bit]
    revert hj this
    cases m.testBit j <;> cases kn.testBit j <;> cases s.testBit j <;> simp
  rcases stC_spec (fun s => F (pc (m &&& (kn ||| s)))) (nd m kn) 13 0 with ⟨h1, h2⟩ | ⟨i, -, h2, h3, h4, h5⟩
  · rcases h with ⟨rfl, -⟩ | ⟨b, rfl, b1, b2, -⟩
    · exact h1
    · simp only [Bool.and_eq_true, decide_eq_true_eq] at b2
      have hle := pc_sub (subU b b2.1)
      have := h2 (pc (m &&& b)) (Nat.zero_le _) (by omega)
      simp only [cnt] at this
      rw [show min (pc (m &&& b)) (pc (nd m kn)) = pc (m &&& b) by omega, ← pc_split b2.1, b2.2] at this
      cases this
  · rw [h3]
    have hc : Bst (fun s => decide (s &&& kn = 0) && F (pc (m &&& (kn ||| s)))) 4096 (some (grd (nd m kn) i)) := by
      refine Or.inr ⟨_, rfl, (gs i).1, ?_, fun s hs hg => ?_⟩
      · rw [Bool.and_eq_true, decide_eq_true_eq]
        exact ⟨dis i, h4⟩
      · simp only [Bool.and_eq_true, decide_eq_true_eq] at hg
        have hsu := subU s hg.1
        have hle := pc_sub hsu
        have hms : pc (m &&& s) ≤ pc s := pc_sub (fun j hj => by
          rw [Nat.testBit_and, Bool.and_eq_true] at hj
          exact hj.2)
        have hij : i ≤ pc (m &&& s) := by
          by_cases hlt : pc (m &&& s) < i
          · have := h5 (pc (m &&& s)) (Nat.zero_le _) hlt
            simp only [cnt] at this
            rw [show min (pc (m &&& s)) (pc (nd m kn)) = pc (m &&& s) by omega, ← pc_split hg.1, hg.2] at this
            cases this
          · omega
        have hci := (gs i).2.2.2
        refine ⟨by omega, fun heq => ?_⟩
        have hmse : m &&& s = s := by
          have e : pc (m &&& s) = pc s := by omega
          rcases hi_bit (m &&& s) s 12 (fun j hj => by rw [tb12 hs hj, tb12 (Nat.lt_of_le_of_lt Nat.and_le_left hm) hj]) with q | ⟨x, q1, q2, q3⟩
          · exact q
          · exfalso
            have hx : (m &&& s).testBit x = false ∧ s.testBit x = true := by
              rw [Nat.testBit_and] at q2 ⊢
              revert q2
              cases m.testBit x <;> cases s.testBit x <;> simp
            have hins := pcA_ins hx.1 12
            rw [if_pos q1] at hins
            have hsub2 : sub ((m &&& s) ||| 2 ^ x) s := fun j hj => by
              rw [Nat.testBit_or, Nat.testBit_two_pow, Nat.testBit_and] at hj
              by_cases hz : x = j
              · rw [← hz]; exact hx.2
              · rw [decide_eq_false hz, Bool.or_false, Bool.and_eq_true] at hj
                exact hj.2
            have := pc_sub hsub2
            have e2 : pc ((m &&& s) ||| 2 ^ x) = pcA ((m &&& s) ||| 2 ^ x) 12 := rfl
            have e3 : pc (m &&& s) = pcA (m &&& s) 12 := rfl
            omega
        rw [hmse] at hsu hij
        exact grd_le hU hs hsu (by omega)
    rw [Bst_uniq h hc]
    rfl
end SETS
