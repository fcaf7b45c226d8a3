/-! WIT of the given one, over a yard -/
section WITXB
variable {X : mX} {d : Nat} {σ : mS} {Q : Option mV → mS → Prop} {y : Nat} {Y : mY} {B : List mCl}
def D85 : Nat → Nat → Prop := fun a _ => a = 85
theorem D85_ok : okD D85 := fun a k h => by unfold D85 at h; omega
theorem D85_y (hy : isY y) : ∀ a k, D85 a k → ¬ FYx y a k := fun a k h => by
  unfold D85 at h
  unfold FYx
  rcases hy with rfl | rfl | rfl <;> omega
theorem YB.f85 {σ' : mS} (h : YB σ y Y B) (ha : Agk D85 σ σ') : YB σ' y Y B := h.fr ha D85_ok (D85_y h.2.1)
theorem YB.c (h : YB σ y Y B) : (σ.2.1 y 5 = Y 138 0 ∧ σ.2.1 y 6 = Y 138 6 ∧ σ.2.1 y 7 = Y 138 11 ∧ σ.2.1 y 8 = Y 138 19) ∧ (0 ≤ Y 138 0 ∧ Y 138 0 ≤ 6) ∧ (0 ≤ Y 138 6 ∧ Y 138 6 ≤ 6) ∧ (0 ≤ Y 138 11 ∧ Y 138 11 ≤ 1000000) := ⟨h.2.2.1.1, h.2.2.2.1.1, h.2.2.2.1.2.1, h.2.2.2.1.2.2.1⟩
theorem YB.g (h : YB σ y Y B) {p : Nat} (hp : p < 6) : σ.2.1 (y + 9 + 3 * p) 0 = Y 139 p ∧ σ.2.1 (y + 9 + 3 * p) 1 = Y 140 p ∧ σ.2.1 (y + 9 + 3 * p) 2 = Y 141 p ∧ σ.2.1 (y + 9 + 3 * p) 3 = Y 142 p ∧ ∀ j, j < 4 → σ.2.1 (y + 9 + 3 * p + 1) j = Y 143 (4 * p + j) := h.2.2.1.2.1 p hp
theorem YB.q (h : YB σ y Y B) {q : Nat} (hq : q < 6) : σ.2.1 (y + 11 + 3 * q) 0 = Y 144 q ∧ σ.2.1 (y + 11 + 3 * q) 1 = Y 145 q ∧ σ.2.1 (y + 11 + 3 * q) 2 = Y 146 q ∧ σ.2.1 (y + 11 + 3 * q) 3 = Y 147 q := h.2.2.1.2.2.1 q hq
theorem WFY.g {nb : Int} (h : WFY nb Y) {p : Nat} (hp : p < 6) : (0 ≤ Y 139 p ∧ Y 139 p ≤ 6) ∧ (0 ≤ Y 140 p ∧ Y 140 p ≤ 9) ∧ (0 ≤ Y 141 p ∧ Y 141 p < 4096) ∧ (0 ≤ Y 142 p ∧ Y 142 p ≤ 99) := h.2.2.2.2.1 p hp
theorem WFY.q {nb : Int} (h : WFY nb Y) {q : Nat} (hq : q < 6) : (0 ≤ Y 144 q ∧ Y 144 q < 4096) ∧ (0 ≤ Y 145 q ∧ Y 145 q ≤ 99) ∧ (0 ≤ Y 146 q ∧ Y 146 q ≤ 2) ∧ ((q : Int) < Y 138 6 → Y 147 q = -5 ∨ (0 ≤ Y 147 q ∧ Y 147 q < Y 138 0)) := h.2.2.2.2.2.2.1 q hq
theorem WFY.rw {nb : Int} (h : WFY nb Y) {i : Nat} (hi : i < 24) : 0 ≤ Y 143 i ∧ Y 143 i ≤ 9 := h.2.2.2.2.2.1 i hi
theorem c_guardY (h : YB σ y Y B) {p : Nat} (hp : (p : Int) < Y 138 0) (hQ : Q (some (vP (some (y + 9 + 3 * p)))) σ) : CALL X d (0, 0) MX9_guardAt [vP (some y), vI (p : Int)] σ Q := by
  have hc := h.c
  refine c_guardAt h.1 h.2.1 (by omega) (by omega) ?_
  unfold gAt
  rw [if_pos (by omega)]
  exact hQ
theorem c_guardN (h : YB σ y Y B) {x : Int} (hx : -2147483648 ≤ x ∧ x ≤ 2147483647) (hp : ¬ (0 ≤ x ∧ x < Y 138 0)) (hQ : Q (some (vP none)) σ) : CALL X d (0, 0) MX9_guardAt [vP (some y), vI x] σ Q := by
  have hc := h.c
  refine c_guardAt h.1 h.2.1 hx (by omega) ?_
  unfold gAt
  rw [if_neg (by omega)]
  exact hQ
theorem c_questionY (h : YB σ y Y B) {q : Nat} (hq : (q : Int) < Y 138 6) (hQ : Q (some (vP (some (y + 11 + 3 * q)))) σ) : CALL X d (0, 0) MX9_questionAt [vP (some y), vI (q : Int)] σ Q := by
  have hc := h.c
  refine c_questionAt h.1 h.2.1 (by omega) (by omega) ?_
  unfold qAt
  rw [if_pos (by omega)]
  exact hQ
theorem c_questionN (h : YB σ y Y B) {x : Int} (hx : -2147483648 ≤ x ∧ x ≤ 2147483647) (hp : ¬ (0 ≤ x ∧ x < Y 138 6)) (hQ : Q (some (vP none)) σ) : CALL X d (0, 0) MX9_questionAt [vP (some y), vI x] σ Q := by
  have hc := h.c
  refine c_questionAt h.1 h.2.1 hx (by omega) ?_
  unfold qAt
  rw [if_neg (by omega)]
  exact hQ
theorem YB.isG (h : YB σ y Y B) {p : Nat} (hp : p < 6) : isG (y + 9 + 3 * p) := ⟨y, p, h.2.1, hp, rfl⟩
theorem YB.isQ (h : YB σ y Y B) {q : Nat} (hq : q < 6) : isQ (y + 11 + 3 * q) := ⟨y, q, h.2.1, hq, rfl⟩
theorem YB.le (h : YB σ y Y B) : y ≤ 55 := by
  rcases h.2.1 with rfl | rfl | rfl <;> decide
theorem c_heldBy (h : YB σ y Y B) (q0 : B = [] → Q (some (vP none)) σ) (q1 : ∀ b, b < 6 → RepX σ.2.1 b B → Q (some (vP (some (86 + 5 * b)))) σ) : CALL X d (0, 0) MX7_heldBy [vP (some 83), vP (some y)] σ Q := by
  have hc := h.c
  obtain ⟨-, ⟨k1, k2, k3, k4⟩, k5⟩ := h.2.2.2.2
  refine C_X7_heldBy h.1 h.2.1 ⟨fun h1 => ?_, fun h1 => ⟨fun h2 => ?_, fun h2 => ⟨fun h3 => ⟨by omega, ?_⟩, fun h3 => ?_⟩⟩⟩
  · rcases k5 with ⟨e1, e2⟩ | ⟨e1, e2, -⟩
    · exact q0 e2
    · omega
  · rcases k5 with ⟨e1, e2⟩ | ⟨e1, e2, -⟩
    · omega
    · omega
  · rcases k5 with ⟨e1, e2⟩ | ⟨e1, e2, e3, e4⟩
    · omega
    · rw [hc.1.2.2.2]
      exact q1 _ (by omega) e4
  · rcases k5 with ⟨e1, e2⟩ | ⟨e1, e2, -⟩
    · omega
    · omega
theorem c_rest (h : YB σ y Y B) (hQ : Q (some (vI (restC B))) σ) : CALL X (d + 1) (0, 0) MX7_rest [vP (some 83), vP (some y)] σ Q := by
  refine C_X7_rest h.1 h.2.1 (c_heldBy h (fun e => ⟨_, rfl, h.1, fun _ => ?_, fun a ha => by cases ha⟩) (fun b hb hr => ⟨_, rfl, h.1, fun hz => (by cases hz), fun a ha => ?_⟩))
  · rw [e] at hQ
    exact hQ
  · obtain rfl := Option.some.inj ha
    refine ⟨⟨b, hb, rfl⟩, ?_⟩
    rw [hr.1]
    exact hQ
theorem c_bonus (h : YB σ y Y B) {p : Nat} (hp : (p : Int) < Y 138 0) {v : Int} (hv : 0 ≤ v ∧ v ≤ 9) {n : Nat} (hn : n ≤ 12) (hQ : ∀ σ', Agk D85 σ σ' → Q (some (vI (bonS (facF Y p v n) B))) σ') : CALL X (d + 3) (0, 0) MX7_bonus [vP (some 83), vP (some y), vI (p : Int), vI v, vI (n : Int)] σ Q := by
  have hs := h.1
  have hc := h.c
  have hW := h.2.2.2.1
  have hle := h.le
  have hp6 : p < 6 := by omega
  refine C_X7_bonus hs h.2.1 (c_heldBy h (fun e => ⟨_, rfl, hs, c_guardY h hp ⟨_, rfl, hs, fun _ => ?_, fun a ha => by cases ha⟩⟩) (fun b hb hr => ⟨_, rfl, hs, c_guardY h hp ⟨_, rfl, hs, fun hz => (by cases hz), fun a ha => ?_⟩⟩))
  · have := hQ σ (Agk.rf hs)
    rw [e] at this
    exact this
  · obtain rfl := Option.some.inj ha
    refine ⟨⟨b, hb, rfl⟩, fun hz => (by cases hz), fun a2 ha2 => ?_⟩
    obtain rfl := Option.some.inj ha2
    have g := h.g hp6
    have wg := hW.g hp6
    have e1 : (sI σ 85 0 (p : Int)).2.1 (y + 9 + 3 * p) 0 = Y 139 p := by rw [sI_at, if_neg (by omega)]; exact g.1
    rw [e1]
    have e2 : (sI (sI (sI σ 85 0 (p : Int)) 85 1 (Y 139 p)) 85 2 v).2.1 (y + 9 + 3 * p) 3 = Y 142 p := by rw [sI_at, if_neg (by omega), sI_at, if_neg (by omega), sI_at, if_neg (by omega)]; exact g.2.2.2.1
    rw [e2, tdiv10 (by omega)]
    have e3 : (sI (sI (sI (sI (sI σ 85 0 (p : Int)) 85 1 (Y 139 p)) 85 2 v) 85 3 (Y 142 p / 10)) 85 4 (n : Int)).2.1 y 7 = Y 138 11 := by rw [sI_at, if_neg (by omega), sI_at, if_neg (by omega), sI_at, if_neg (by omega), sI_at, if_neg (by omega), sI_at, if_neg (by omega)]; exact hc.1.2.2.1
    rw [e3, tmod10 (by omega)]
    have hs1 : Sh (sI σ 85 0 (p : Int)) := sh_I hs (by omega) (hs.k (a := 85) rfl) (Or.inl (by decide))
    have hs2 : Sh (sI (sI σ 85 0 (p : Int)) 85 1 (Y 139 p)) := sh_I hs1 (by omega) (hs1.k (a := 85) rfl) (Or.inl (by decide))
    have hs3 : Sh (sI (sI (sI σ 85 0 (p : Int)) 85 1 (Y 139 p)) 85 2 v) := sh_I hs2 (by omega) (hs2.k (a := 85) rfl) (Or.inl (by decide))
    have hs4 : Sh (sI (sI (sI (sI σ 85 0 (p : Int)) 85 1 (Y 139 p)) 85 2 v) 85 3 (Y 142 p / 10)) := sh_I hs3 (by omega) (hs3.k (a := 85) rfl) (Or.inl (by decide))
    have hs5 : Sh (sI (sI (sI (sI (sI σ 85 0 (p : Int)) 85 1 (Y 139 p)) 85 2 v) 85 3 (Y 142 p / 10)) 85 4 (n : Int)) := sh_I hs4 (by omega) (hs4.k (a := 85) rfl) (Or.inl (by decide))
    have hs6 : Sh (sI (sI (sI (sI (sI (sI σ 85 0 (p : Int)) 85 1 (Y 139 p)) 85 2 v) 85 3 (Y 142 p / 10)) 85 4 (n : Int)) 85 5 (Y 138 11 % 10)) := sh_I hs5 (by omega) (hs5.k (a := 85) rfl) (Or.inl (by decide))
    have hA : Agk D85 σ (sI (sI (sI (sI (sI (sI σ 85 0 (p : Int)) 85 1 (Y 139 p)) 85 2 v) 85 3 (Y 142 p / 10)) 85 4 (n : Int)) 85 5 (Y 138 11 % 10)) := ((((((Agk.rf hs).sI hs1 rfl).sI hs2 rfl).sI hs3 rfl).sI hs4 rfl).sI hs5 rfl).sI hs6 rfl
    have hf : ∀ k, k < 6 → (sI (sI (sI (sI (sI (sI σ 85 0 (p : Int)) 85 1 (Y 139 p)) 85 2 v) 85 3 (Y 142 p / 10)) 85 4 (n : Int)) 85 5 (Y 138 11 % 10)).2.1 85 k = facF Y p v n k := by
      intro k hk
      have hk' : k = 0 ∨ k = 1 ∨ k = 2 ∨ k = 3 ∨ k = 4 ∨ k = 5 := by omega
      rcases hk' with rfl | rfl | rfl | rfl | rfl | rfl <;> rfl
    revert hA hf hs6
    generalize sI (sI (sI (sI (sI (sI σ 85 0 (p : Int)) 85 1 (Y 139 p)) 85 2 v) 85 3 (Y 142 p / 10)) 85 4 (n : Int)) 85 5 (Y 138 11 % 10) = σ2
    intro hs6 hA hf
    have h2 := h.f85 hA
    have hr2 : RepX σ2.2.1 b B := by
      have ne : ∀ a, 86 ≤ a → σ2.2.1 a = σ.2.1 a := fun a q => funext fun k => hA.2.2 a k (fun q' => by unfold D85 at q'; omega)
      unfold RepX
      rw [ne (86 + 5 * b) (by omega), ne (86 + 5 * b + 1) (by omega), ne (86 + 5 * b + 2) (by omega), ne (86 + 5 * b + 3) (by omega), ne (86 + 5 * b + 4) (by omega)]
      exact hr
    refine ⟨h.isG hp6, by omega, by omega, by omega, by omega, by omega, c_bonus0 hs6 hb hr2 h.2.2.2.2.1.1 h.2.2.2.2.1.2 hf ⟨_, rfl, hs6, hQ _ hA⟩⟩
theorem n_and3 (n : Nat) : n &&& 3 = n % 4 := Nat.and_two_pow_sub_one_eq_mod n 2
theorem witC_0 {t v tr hr s g : Int} {n : Nat} (h : t < 1 ∨ 6 < t) : witC t v tr hr s n g = s := by
  simp only [witC, if_neg (show ¬ t = 1 by omega), if_neg (show ¬ t = 2 by omega), if_neg (show ¬ t = 3 by omega), if_neg (show ¬ t = 4 by omega), if_neg (show ¬ t = 5 by omega), if_neg (show ¬ t = 6 by omega)]
theorem witC_1 {v tr hr s g : Int} {n : Nat} : witC 1 v tr hr s n g = s + v := rfl
theorem witC_2 {v tr hr s g : Int} {n : Nat} : witC 2 v tr hr s n g = s.tdiv 2 + 1 := rfl
theorem witC_3 {v tr hr s g : Int} {n : Nat} : witC 3 v tr hr s n g = if 2 ≤ n then s else 0 := rfl
theorem witC_4 {v tr hr s g : Int} {n : Nat} : witC 4 v tr hr s n g = s + v + (if hr % 3 = 0 then 3 else 0) := rfl
theorem witC_5 {v tr hr s g : Int} {n : Nat} : witC 5 v tr hr s n g = s.tdiv 2 + 1 - (if 30 ≤ tr then 4 else 0) := rfl
theorem witC_6 {v tr hr s g : Int} {n : Nat} : witC 6 v tr hr s n g = (if 2 ≤ n then s else 0) + g - 4 := rfl
theorem tdiv2_r {s : Int} (h : -2000 ≤ s ∧ s ≤ 2000) : -2000 ≤ s.tdiv 2 ∧ s.tdiv 2 ≤ 2000 := by
  by_cases h0 : 0 ≤ s
  · rw [Int.tdiv_eq_ediv_of_nonneg h0]
    omega
  · have e : s = -(-s) := by omega
    rw [e, Int.neg_tdiv, Int.tdiv_eq_ediv_of_nonneg (by omega)]
    omega
theorem witC_r {t v tr hr s g : Int} {n : Nat} (hs : -2000 ≤ s ∧ s ≤ 2000) (hv : 0 ≤ v ∧ v ≤ 9) (hg : 0 ≤ g ∧ g ≤ 9) : -10000 ≤ witC t v tr hr s n g ∧ witC t v tr hr s n g ≤ 10000 := by
  have := tdiv2_r hs
  unfold witC
  repeat' split
  all_goals omega
theorem sumN_r {nb : Int} (hW : WFY nb Y) (hB : (∀ c ∈ B, okC c) ∧ B.length ≤ 10) {p : Nat} (hp : p < 6) {v : Int} {n k : Nat} (hn : n ≤ 12) (hk : k ≤ n) : -2000 ≤ sumN B Y p v n k ∧ sumN B Y p v n k ≤ 2000 := by
  have h1 := bonS_r (facF Y p v n) B hB.1
  have h2 := hW.g hp
  unfold sumN
  omega
theorem witN_r {nb : Int} (hW : WFY nb Y) (hB : (∀ c ∈ B, okC c) ∧ B.length ≤ 10) {p : Nat} (hp : p < 6) {v : Int} (hv : 0 ≤ v ∧ v ≤ 9) {n k : Nat} (hn : n ≤ 12) (hk : k ≤ n) : -10000 ≤ witN B Y p v n k ∧ witN B Y p v n k ≤ 10000 :=
  witC_r (sumN_r hW hB hp hn hk) hv (hW.rw (by omega))
/-- its n and k and what the border gives being known -/
theorem c_witK (h : YB σ y Y B) {p : Nat} (hp : (p : Int) < Y 138 0) {v : Int} (hv : 0 ≤ v ∧ v ≤ 9) {n k : Nat} (hn : n ≤ 12) (hk : k ≤ n) (hQ : Q (some (vI (witN B Y p v n k))) σ) : CALL X (d + 1) (0, 0) MX7_witKnowing [vP (some 83), vP (some y), vI (p : Int), vI v, vI (n : Int), vI (k : Int), vI (bonS (facF Y p v n) B)] σ Q := by
  have hs := h.1
  have hc := h.c
  have hp6 : p < 6 := by omega
  have g := h.g hp6
  have wg := h.2.2.2.1.g hp6
  have hsr := sumN_r (k := k) (v := v) h.2.2.2.1 h.2.2.2.2.1 hp6 hn hk
  unfold witN at hQ
  refine C_X7_witKnowing hs h.2.1 (c_guardY h hp ⟨_, rfl, hs, fun hz => (by cases hz), fun a ha => ?_⟩)
  obtain rfl := Option.some.inj ha
  rw [g.1, g.2.2.2.1, hc.1.2.2.1, tdiv10 (by omega), Int.tmod_eq_emod_of_nonneg (a := Y 138 11) (b := 3) (by omega)]
  have e : band (n : Int) 3 = ((n % 4 : Nat) : Int) := by
    have := band_n (a := n) (b := 3) (by omega)
    rw [n_and3] at this
    exact this
  rw [e, show (((n % 4 : Nat) : Int)).toNat = n % 4 by omega, g.2.2.2.2 (n % 4) (by omega)]
  rw [show 2 * (k : Int) - ((n : Int) - (k : Int)) - Y 142 p / 10 + bonS (facF Y p v n) B = sumN B Y p v n k from rfl]
  refine ⟨h.isG hp6, by omega, fun ht => ?_, fun ht => ⟨by omega, ?_⟩, fun ht => ⟨by omega, fun h2 => ?_, fun h2 => ?_⟩, fun ht => ⟨by omega, fun h2 => ?_, fun h2 => ?_⟩, fun ht => ⟨by omega, fun h2 => ?_, fun h2 => ?_⟩, fun ht => ⟨by omega, fun h2 => ⟨by omega, by omega, ?_⟩, fun h2 => ⟨by omega, by omega, ?_⟩⟩, fun ht => ?_⟩
  · rw [ht, witC_1] at hQ; exact hQ
  · rw [ht, witC_2] at hQ; exact hQ
  · rw [ht, witC_3, if_pos (by omega)] at hQ; exact hQ
  · rw [ht, witC_3, if_neg (by omega)] at hQ; exact hQ
  · rw [ht, witC_4, if_neg h2] at hQ; exact hQ
  · rw [ht, witC_4, if_pos h2] at hQ; exact hQ
  · rw [ht, witC_5, if_neg (by omega)] at hQ; exact hQ
  · rw [ht, witC_5, if_pos (by omega)] at hQ; exact hQ
  · rw [ht, witC_6, if_pos (by omega)] at hQ; exact hQ
  · rw [ht, witC_6, if_neg (by omega)] at hQ; exact hQ
  · rw [witC_0 ht] at hQ; exact hQ
theorem c_wit (h : YB σ y Y B) {p : Nat} (hp : (p : Int) < Y 138 0) {v : Int} (hv : 0 ≤ v ∧ v ≤ 9) {kn m : Nat} (hkn : kn < 4096) (hm : m < 4096) (hQ : ∀ σ', Agk D85 σ σ' → Q (some (vI (witS B Y p v kn m))) σ') : CALL X (d + 4) (0, 0) MX7_wit [vP (some 83), vP (some y), vI (p : Int), vI (kn : Int), vI v, vI (m : Int)] σ Q := by
  have hs := h.1
  have hl : m &&& kn < 4096 := Nat.lt_of_le_of_lt Nat.and_le_left hm
  refine C_X7_wit hs h.2.1 (c_bitCount hm ⟨_, rfl, hs, ?_⟩)
  rw [band_n (by omega)]
  refine c_bitCount hl ⟨_, rfl, hs, c_bonus h hp hv (pc_le m) (fun σ' hA => ⟨_, rfl, hA.1, c_witK (h.f85 hA) hp hv (pc_le m) (pc_and_le m kn) ⟨_, rfl, hA.1, hQ _ hA⟩⟩)⟩
theorem c_ans (h : YB σ y Y B) {p : Nat} (hp : (p : Int) < Y 138 0) {v : Int} (hv : 0 ≤ v ∧ v ≤ 9) {kn m : Nat} (hkn : kn < 4096) (hm : m < 4096) (hQ : ∀ σ', Agk D85 σ σ' → Q (some (vI (bB (ansS B Y p v kn m)))) σ') : CALL X (d + 5) (0, 0) MX7_answers [vP (some 83), vP (some y), vI (p : Int), vI (kn : Int), vI v, vI (m : Int)] σ Q := by
  have hc := h.c
  have hr := witN_r (p := p) (v := v) (n := pc m) (k := pc (m &&& kn)) h.2.2.2.1 h.2.2.2.2.1 (by omega) hv (pc_le m) (pc_and_le m kn)
  refine C_X7_answers h.1 h.2.1 (c_wit h hp hv hkn hm (fun σ' hA => ⟨_, rfl, hA.1, by unfold witS; omega, fun hz => ?_, fun hz => ?_⟩))
  · have := hQ σ' hA
    unfold ansS at this
    rw [decide_eq_false (by omega)] at this
    exact this
  · have := hQ σ' hA
    unfold ansS at this
    rw [decide_eq_true (by omega)] at this
    exact this
def ansY (B : List mCl) (Y : mY) (p m : Nat) : Bool := ansS B Y p (Y 140 p) (Y 141 p).toNat m
theorem c_ansNow (h : YB σ y Y B) {p : Nat} (hp : (p : Int) < Y 138 0) {m : Nat} (hm : m < 4096) (hQ : ∀ σ', Agk D85 σ σ' → Q (some (vI (bB (ansY B Y p m)))) σ') : CALL X (d + 6) (0, 0) MX7_answersNow [vP (some 83), vP (some y), vI (p : Int), vI (m : Int)] σ Q := by
  have hs := h.1
  have hc := h.c
  have hp6 : p < 6 := by omega
  have g := h.g hp6
  have wg := h.2.2.2.1.g hp6
  refine C_X7_answersNow hs h.2.1 (c_guardY h hp ⟨_, rfl, hs, fun hz => (by cases hz), fun a ha => ?_⟩)
  obtain rfl := Option.some.inj ha
  obtain ⟨kn, hkn⟩ : ∃ n : Nat, Y 141 p = (n : Int) := ⟨(Y 141 p).toNat, by omega⟩
  unfold ansY at hQ
  rw [hkn, show ((kn : Int)).toNat = kn by omega] at hQ
  rw [g.2.1, g.2.2.1, hkn]
  refine ⟨h.isG hp6, c_ans h hp (by omega) (by omega) hm (fun σ' hA => ⟨_, rfl, hA.1, fun hz => ?_, fun hz => ?_⟩)⟩
  · have := hQ σ' hA
    rw [hz] at this
    exact this
  · have := hQ σ' hA
    rw [hz] at this
    exact this
end WITXB
