/-! WIT of the given one, over a yard -/
section WITXB
variable {X : mX} {d : Nat} {σ : mS} {Q : Option mV → mS → Prop} {y : Nat} {Y : mY} {B : List mCl}
/-- the six facts of every border -/
def D85 : Nat → Nat → Prop := fun a _ => 87 ≤ a ∧ a ≤ 102 ∧ a % 3 = 0
theorem D85_ok : okD D85 := fun a k h => by unfold D85 at h; omega
theorem D85_y (hy : isY y) : ∀ a k, D85 a k → ¬ FYx y a k := fun a k h => by
  unfold D85 at h
  unfold FYx
  rcases hy with rfl | rfl | rfl <;> omega
theorem YB.f85 {σ' : mS} (h : YB σ y Y B) (ha : Agk D85 σ σ') : YB σ' y Y B := h.fr ha D85_ok (D85_y h.2.1)
theorem YB.c (h : YB σ y Y B) : (σ.2.1 y 5 = Y 125 0 ∧ σ.2.1 y 6 = Y 125 6 ∧ σ.2.1 y 7 = Y 125 11 ∧ σ.2.1 y 8 = Y 125 19) ∧ (0 ≤ Y 125 0 ∧ Y 125 0 ≤ 6) ∧ (0 ≤ Y 125 6 ∧ Y 125 6 ≤ 6) ∧ (0 ≤ Y 125 11 ∧ Y 125 11 ≤ 1000000) := ⟨h.2.2.1.1, h.2.2.2.1.1, h.2.2.2.1.2.1, h.2.2.2.1.2.2.1⟩
theorem YB.g (h : YB σ y Y B) {p : Nat} (hp : p < 6) : σ.2.1 (y + 9 + 3 * p) 0 = Y 126 p ∧ σ.2.1 (y + 9 + 3 * p) 1 = Y 127 p ∧ σ.2.1 (y + 9 + 3 * p) 2 = Y 128 p ∧ σ.2.1 (y + 9 + 3 * p) 3 = Y 129 p ∧ ∀ j, j < 4 → σ.2.1 (y + 9 + 3 * p + 1) j = Y 130 (4 * p + j) := h.2.2.1.2.1 p hp
theorem YB.q (h : YB σ y Y B) {q : Nat} (hq : q < 6) : σ.2.1 (y + 11 + 3 * q) 0 = Y 131 q ∧ σ.2.1 (y + 11 + 3 * q) 1 = Y 132 q ∧ σ.2.1 (y + 11 + 3 * q) 2 = Y 133 q ∧ σ.2.1 (y + 11 + 3 * q) 3 = Y 134 q := h.2.2.1.2.2.1 q hq
theorem WFY.g {nb : Int} (h : WFY nb Y) {p : Nat} (hp : p < 6) : (0 ≤ Y 126 p ∧ Y 126 p ≤ 6) ∧ (0 ≤ Y 127 p ∧ Y 127 p ≤ 9) ∧ (0 ≤ Y 128 p ∧ Y 128 p < 4096) ∧ (0 ≤ Y 129 p ∧ Y 129 p ≤ 99) := h.2.2.2.2.1 p hp
theorem WFY.q {nb : Int} (h : WFY nb Y) {q : Nat} (hq : q < 6) : (0 ≤ Y 131 q ∧ Y 131 q < 4096) ∧ (0 ≤ Y 132 q ∧ Y 132 q ≤ 99) ∧ (0 ≤ Y 133 q ∧ Y 133 q ≤ 2) ∧ ((q : Int) < Y 125 6 → Y 134 q = -5 ∨ (0 ≤ Y 134 q ∧ Y 134 q < Y 125 0)) := h.2.2.2.2.2.2.1 q hq
theorem WFY.rw {nb : Int} (h : WFY nb Y) {i : Nat} (hi : i < 24) : 0 ≤ Y 130 i ∧ Y 130 i ≤ 9 := h.2.2.2.2.2.1 i hi
theorem c_guardY (h : YB σ y Y B) {p : Nat} (hp : (p : Int) < Y 125 0) (hQ : Q (some (vP (some (y + 9 + 3 * p)))) σ) : CALL X d (0, 0) MX9_guardAt [vP (some y), vI (p : Int)] σ Q := by
  have hc := h.c
  refine c_guardAt h.1 h.2.1 (by omega) (by omega) ?_
  unfold gAt
  rw [if_pos (by omega)]
  exact hQ
theorem c_guardN (h : YB σ y Y B) {x : Int} (hx : -2147483648 ≤ x ∧ x ≤ 2147483647) (hp : ¬ (0 ≤ x ∧ x < Y 125 0)) (hQ : Q (some (vP none)) σ) : CALL X d (0, 0) MX9_guardAt [vP (some y), vI x] σ Q := by
  have hc := h.c
  refine c_guardAt h.1 h.2.1 hx (by omega) ?_
  unfold gAt
  rw [if_neg (by omega)]
  exact hQ
theorem c_questionY (h : YB σ y Y B) {q : Nat} (hq : (q : Int) < Y 125 6) (hQ : Q (some (vP (some (y + 11 + 3 * q)))) σ) : CALL X d (0, 0) MX9_questionAt [vP (some y), vI (q : Int)] σ Q := by
  have hc := h.c
  refine c_questionAt h.1 h.2.1 (by omega) (by omega) ?_
  unfold qAt
  rw [if_pos (by omega)]
  exact hQ
theorem c_questionN (h : YB σ y Y B) {x : Int} (hx : -2147483648 ≤ x ∧ x ≤ 2147483647) (hp : ¬ (0 ≤ x ∧ x < Y 125 6)) (hQ : Q (some (vP none)) σ) : CALL X d (0, 0) MX9_questionAt [vP (some y), vI x] σ Q := by
  have hc := h.c
  refine c_questionAt h.1 h.2.1 hx (by omega) ?_
  unfold qAt
  rw [if_neg (by omega)]
  exact hQ
theorem YB.isG (h : YB σ y Y B) {p : Nat} (hp : p < 6) : isG (y + 9 + 3 * p) := ⟨y, p, h.2.1, hp, rfl⟩
theorem YB.isQ (h : YB σ y Y B) {q : Nat} (hq : q < 6) : isQ (y + 11 + 3 * q) := ⟨y, q, h.2.1, hq, rfl⟩
theorem YB.le (h : YB σ y Y B) : y ≤ 55 := by
  rcases h.2.1 with rfl | rfl | rfl <;> decide
theorem YB.held (h : YB σ y Y B) : (B = [] ∧ hB (σ.2.1 y 8) = none) ∨ ∃ b, b < 6 ∧ RepX σ.2.1 b B ∧ hB (σ.2.1 y 8) = some (85 + 3 * b) := by
  have hc := h.c
  obtain ⟨-, ⟨k1, k2, k3, k4⟩, k5⟩ := h.2.2.2.2
  rw [hc.1.2.2.2]
  rcases k5 with ⟨e1, e2⟩ | ⟨e1, e2, e3, e4⟩
  · exact Or.inl ⟨e2, by rw [e1]; rfl⟩
  · refine Or.inr ⟨(Y 125 19).toNat, by omega, e4, ?_⟩
    unfold hB
    rw [if_neg (by omega)]
theorem c_rest (h : YB σ y Y B) (hQ : Q (some (vI (restC B))) σ) : CALL X (d + 1) (0, 0) MX9_rest [vP (some y)] σ Q := by
  rcases h.held with ⟨e, e8⟩ | ⟨b, hb, hr, e8⟩
  · refine C_X9_rest h.1 h.2.1 ⟨fun _ => ?_, fun a ha => by rw [e8] at ha; cases ha⟩
    rw [e] at hQ
    exact hQ
  · refine C_X9_rest h.1 h.2.1 ⟨fun hz => (by rw [e8] at hz; cases hz), fun a ha => ?_⟩
    rw [e8] at ha
    obtain rfl := Option.some.inj ha
    refine ⟨⟨b, hb, rfl⟩, _, e8, ⟨b, hb, rfl⟩, ?_⟩
    rw [hr.1]
    exact hQ
/-- what all keen and dull give -/
theorem c_bonus (h : YB σ y Y B) {b : Nat} (hb : b < 6) (hr : RepX σ.2.1 b B) {p : Nat} (hp : (p : Int) < Y 125 0) {v : Int} (hv : 0 ≤ v ∧ v ≤ 9) {n : Nat} (hn : n ≤ 12) (hQ : ∀ σ', Agk D85 σ σ' → Q (some (vI (bonS (facF Y p v n) B))) σ') : CALL X (d + 2) (0, 0) MX1_bonus [vP (some (85 + 3 * b)), vP (some (y + 9 + 3 * p)), vI (p : Int), vI v, vI (n : Int), vI (Y 125 11)] σ Q := by
  have hs := h.1
  have hc := h.c
  have hW := h.2.2.2.1
  have hle := h.le
  have hp6 : p < 6 := by omega
  have g := h.g hp6
  have wg := hW.g hp6
  have ha : isB (85 + 3 * b) := ⟨b, hb, rfl⟩
  refine C_X1_bonus hs ha (h.isG hp6) ?_
  have e1 : (sI σ (85 + 3 * b + 2) 0 (p : Int)).2.1 (y + 9 + 3 * p) 0 = Y 126 p := by rw [sI_at, if_neg (by omega)]; exact g.1
  rw [e1]
  have e2 : (sI (sI (sI σ (85 + 3 * b + 2) 0 (p : Int)) (85 + 3 * b + 2) 1 (Y 126 p)) (85 + 3 * b + 2) 2 v).2.1 (y + 9 + 3 * p) 3 = Y 129 p := by rw [sI_at, if_neg (by omega), sI_at, if_neg (by omega), sI_at, if_neg (by omega)]; exact g.2.2.2.1
  rw [e2, tdiv10 (by omega), tmod10 (by omega)]
  have hs1 : Sh (sI σ (85 + 3 * b + 2) 0 (p : Int)) := sh_I hs (by omega) (kB2 hs ha) (Or.inl (by decide))
  have hs2 : Sh (sI (sI σ (85 + 3 * b + 2) 0 (p : Int)) (85 + 3 * b + 2) 1 (Y 126 p)) := sh_I hs1 (by omega) (kB2 hs1 ha) (Or.inl (by decide))
  have hs3 : Sh (sI (sI (sI σ (85 + 3 * b + 2) 0 (p : Int)) (85 + 3 * b + 2) 1 (Y 126 p)) (85 + 3 * b + 2) 2 v) := sh_I hs2 (by omega) (kB2 hs2 ha) (Or.inl (by decide))
  have hs4 : Sh (sI (sI (sI (sI σ (85 + 3 * b + 2) 0 (p : Int)) (85 + 3 * b + 2) 1 (Y 126 p)) (85 + 3 * b + 2) 2 v) (85 + 3 * b + 2) 3 (Y 129 p / 10)) := sh_I hs3 (by omega) (kB2 hs3 ha) (Or.inl (by decide))
  have hs5 : Sh (sI (sI (sI (sI (sI σ (85 + 3 * b + 2) 0 (p : Int)) (85 + 3 * b + 2) 1 (Y 126 p)) (85 + 3 * b + 2) 2 v) (85 + 3 * b + 2) 3 (Y 129 p / 10)) (85 + 3 * b + 2) 4 (n : Int)) := sh_I hs4 (by omega) (kB2 hs4 ha) (Or.inl (by decide))
  have hs6 : Sh (sI (sI (sI (sI (sI (sI σ (85 + 3 * b + 2) 0 (p : Int)) (85 + 3 * b + 2) 1 (Y 126 p)) (85 + 3 * b + 2) 2 v) (85 + 3 * b + 2) 3 (Y 129 p / 10)) (85 + 3 * b + 2) 4 (n : Int)) (85 + 3 * b + 2) 5 (Y 125 11 % 10)) := sh_I hs5 (by omega) (kB2 hs5 ha) (Or.inl (by decide))
  have m5 : ∀ k, D85 (85 + 3 * b + 2) k := fun k => by unfold D85; omega
  have hA : Agk D85 σ (sI (sI (sI (sI (sI (sI σ (85 + 3 * b + 2) 0 (p : Int)) (85 + 3 * b + 2) 1 (Y 126 p)) (85 + 3 * b + 2) 2 v) (85 + 3 * b + 2) 3 (Y 129 p / 10)) (85 + 3 * b + 2) 4 (n : Int)) (85 + 3 * b + 2) 5 (Y 125 11 % 10)) := ((((((Agk.rf hs).sI hs1 (m5 _)).sI hs2 (m5 _)).sI hs3 (m5 _)).sI hs4 (m5 _)).sI hs5 (m5 _)).sI hs6 (m5 _)
  have hf : ∀ k, k < 6 → (sI (sI (sI (sI (sI (sI σ (85 + 3 * b + 2) 0 (p : Int)) (85 + 3 * b + 2) 1 (Y 126 p)) (85 + 3 * b + 2) 2 v) (85 + 3 * b + 2) 3 (Y 129 p / 10)) (85 + 3 * b + 2) 4 (n : Int)) (85 + 3 * b + 2) 5 (Y 125 11 % 10)).2.1 (85 + 3 * b + 2) k = facF Y p v n k := by
    intro k hk
    have hk' : k = 0 ∨ k = 1 ∨ k = 2 ∨ k = 3 ∨ k = 4 ∨ k = 5 := by omega
    rcases hk' with rfl | rfl | rfl | rfl | rfl | rfl
    all_goals simp only [sI_at, facF]
    all_goals simp
  revert hA hf hs6
  generalize sI (sI (sI (sI (sI (sI σ (85 + 3 * b + 2) 0 (p : Int)) (85 + 3 * b + 2) 1 (Y 126 p)) (85 + 3 * b + 2) 2 v) (85 + 3 * b + 2) 3 (Y 129 p / 10)) (85 + 3 * b + 2) 4 (n : Int)) (85 + 3 * b + 2) 5 (Y 125 11 % 10) = σ2
  intro hs6 hA hf
  have ne : ∀ a, 85 ≤ a ∧ a ≤ 102 ∧ a % 3 ≠ 0 → σ2.2.1 a = σ.2.1 a := fun a q => funext fun k => hA.2.2 a k (fun q' => by unfold D85 at q'; omega)
  obtain ⟨-, r2, r3, r4⟩ := hr
  refine ⟨by omega, by omega, by omega, by omega, by omega, c_bonusL (d := d + 1) hs6 ha hf (N := (flX (keepC B)).length) (by rw [ne (85 + 3 * b) (by omega)]; exact r2) r3 (hQ _ hA) (keepC B) 0 0 (fun c hc => ?_) (by omega) (fun j hj => ?_) (by rw [Int.zero_add]; rfl)⟩
  · have := List.mem_filter.mp hc
    exact ⟨h.2.2.2.2.1.1 c this.1, by simpa using this.2⟩
  · rw [ne (85 + 3 * b + 1) (by omega), Nat.zero_add]
    exact r4 j hj
theorem n_and3 (n : Nat) : n &&& 3 = n % 4 := Nat.and_two_pow_sub_one_eq_mod n 2
theorem witC_0 {t v tr hr s g : Int} {n : Nat} (h : t < 1 ∨ 6 < t) : witC t v tr hr s n g = s := by
  simp only [witC, if_neg (show ¬ t = 1 by omega), if_neg (show ¬ t = 2 by omega), if_neg (show ¬ t = 3 by omega), if_neg (show ¬ t = 4 by omega), if_neg (show ¬ t = 5 by omega), if_neg (show ¬ t = 6 by omega)]
theorem witC_1 {v tr hr s g : Int} {n : Nat} : witC 1 v tr hr s n g = s + v := rfl
theorem witC_2 {v tr hr s g : Int} {n : Nat} : witC 2 v tr hr s n g = s.tdiv 2 + 1 := rfl
theorem witC_3 {v tr hr s g : Int} {n : Nat} : witC 3 v tr hr s n g = if 2 ≤ n then s else 0 := rfl
theorem witC_4 {v tr hr s g : Int} {n : Nat} : witC 4 v tr hr s n g = s + v + (if hr % 3 = 0 then 3 else 0) := rfl
theorem witC_5 {v tr hr s g : Int} {n : Nat} : witC 5 v tr hr s n g = s.tdiv 2 + 1 - (if 30 ≤ tr then 4 else 0) := rfl
theorem witC_6 {v tr hr s g : Int} {n : Nat} : witC 6 v tr hr s n g = (if 2 ≤ n then s else 0) + g - 4 := rfl
theorem tdiv2_r {s : Int} (h : -2000 ≤ s ∧ s ≤ 2000) : -2000 ≤ s.tdiv 2 ∧ s.tdiv 2 ≤ 2000 := by
  by_cases h0 : 0 ≤ s
  · rw [Int.tdiv_eq_ediv_of_nonneg h0]
    omega
  · have e : s = -(-s) := by omega
    rw [e, Int.neg_tdiv, Int.tdiv_eq_ediv_of_nonneg (by omega)]
    omega
theorem witC_r {t v tr hr s g : Int} {n : Nat} (hs : -2000 ≤ s ∧ s ≤ 2000) (hv : 0 ≤ v ∧ v ≤ 9) (hg : 0 ≤ g ∧ g ≤ 9) : -10000 ≤ witC t v tr hr s n g ∧ witC t v tr hr s n g ≤ 10000 := by
  have := tdiv2_r hs
  unfold witC
  repeat' split
  all_goals omega
theorem sumN_r {nb : Int} (hW : WFY nb Y) (hB : (∀ c ∈ B, okC c) ∧ B.length ≤ 10) {p : Nat} (hp : p < 6) {v : Int} {n k : Nat} (hn : n ≤ 12) (hk : k ≤ n) : -2000 ≤ sumN B Y p v n k ∧ sumN B Y p v n k ≤ 2000 := by
  have h1 := bonS_r (facF Y p v n) B hB.1
  have h2 := hW.g hp
  unfold sumN
  omega
theorem witN_r {nb : Int} (hW : WFY nb Y) (hB : (∀ c ∈ B, okC c) ∧ B.length ≤ 10) {p : Nat} (hp : p < 6) {v : Int} (hv : 0 ≤ v ∧ v ≤ 9) {n k : Nat} (hn : n ≤ 12) (hk : k ≤ n) : -10000 ≤ witN B Y p v n k ∧ witN B Y p v n k ≤ 10000 :=
  witC_r (sumN_r hW hB hp hn hk) hv (hW.rw (by omega))
/-- its n and k and what the border gives being known -/
theorem c_witK (h : YB σ y Y B) {p : Nat} (hp : (p : Int) < Y 125 0) {v : Int} (hv : 0 ≤ v ∧ v ≤ 9) {n k : Nat} (hn : n ≤ 12) (hk : k ≤ n) (hQ : Q (some (vI (witN B Y p v n k))) σ) : CALL X (d + 1) (0, 0) MX7_witKnowing [vP (some 83), vP (some y), vI (p : Int), vI v, vI (n : Int), vI (k : Int), vI (bonS (facF Y p v n) B)] σ Q := by
  have hs := h.1
  have hc := h.c
  have hp6 : p < 6 := by omega
  have g := h.g hp6
  have wg := h.2.2.2.1.g hp6
  have hsr := sumN_r (k := k) (v := v) h.2.2.2.1 h.2.2.2.2.1 hp6 hn hk
  unfold witN at hQ
  refine C_X7_witKnowing hs h.2.1 (c_guardY h hp ⟨_, rfl, hs, fun hz => (by cases hz), fun a ha => ?_⟩)
  obtain rfl := Option.some.inj ha
  rw [g.1, g.2.2.2.1, hc.1.2.2.1, tdiv10 (by omega), Int.tmod_eq_emod_of_nonneg (a := Y 125 11) (b := 3) (by omega)]
  have e : band (n : Int) 3 = ((n % 4 : Nat) : Int) := by
    have := band_n (a := n) (b := 3) (by omega)
    rw [n_and3] at this
    exact this
  rw [e, show (((n % 4 : Nat) : Int)).toNat = n % 4 by omega, g.2.2.2.2 (n % 4) (by omega)]
  rw [show 2 * (k : Int) - ((n : Int) - (k : Int)) - Y 129 p / 10 + bonS (facF Y p v n) B = sumN B Y p v n k from rfl]
  refine ⟨h.isG hp6, by omega, fun ht => ?_, fun ht => ⟨by omega, ?_⟩, fun ht => ⟨by omega, fun h2 => ?_, fun h2 => ?_⟩, fun ht => ⟨by omega, fun h2 => ?_, fun h2 => ?_⟩, fun ht => ⟨by omega, fun h2 => ?_, fun h2 => ?_⟩, fun ht => ⟨by omega, fun h2 => ⟨by omega, by omega, ?_⟩, fun h2 => ⟨by omega, by omega, ?_⟩⟩, fun ht => ?_⟩
  · rw [ht, witC_1] at hQ; exact hQ
  · rw [ht, witC_2] at hQ; exact hQ
  · rw [ht, witC_3, if_pos (by omega)] at hQ; exact hQ
  · rw [ht, witC_3, if_neg (by omega)] at hQ; exact hQ
  · rw [ht, witC_4, if_neg h2] at hQ; exact hQ
  · rw [ht, witC_4, if_pos h2] at hQ; exact hQ
  · rw [ht, witC_5, if_neg (by omega)] at hQ; exact hQ
  · rw [ht, witC_5, if_pos (by omega)] at hQ; exact hQ
  · rw [ht, witC_6, if_pos (by omega)] at hQ; exact hQ
  · rw [ht, witC_6, if_neg (by omega)] at hQ; exact hQ
  · rw [witC_0 ht] at hQ; exact hQ
theorem c_wit (h : YB σ y Y B) {p : Nat} (hp : (p : Int) < Y 125 0) {kn m : Nat} (hkn : kn < 4096) (hm : m < 4096) (hQ : ∀ σ', Agk D85 σ σ' → Q (some (vI (witS B Y p (Y 127 p) kn m))) σ') : CALL X (d + 4) (0, 0) MX7_wit [vP (some 83), vP (some y), vI (p : Int), vI (kn : Int), vI (m : Int)] σ Q := by
  have hs := h.1
  have hc := h.c
  have hp6 : p < 6 := by omega
  have g := h.g hp6
  have wg := h.2.2.2.1.g hp6
  have hl : m &&& kn < 4096 := Nat.lt_of_le_of_lt Nat.and_le_left hm
  refine C_X7_wit hs h.2.1 (c_guardY h hp ⟨_, rfl, hs, fun hz => (by cases hz), fun a ha => ?_⟩)
  obtain rfl := Option.some.inj ha
  rw [band_n (by omega)]
  refine ⟨h.isG hp6, c_bitCount hm ⟨_, rfl, hs, fun h8 => ?_, fun a2 h8 => ?_⟩⟩
  · rcases h.held with ⟨e, -⟩ | ⟨b, hb, hr, e8⟩
    · refine c_bitCount hl ⟨_, rfl, hs, ?_⟩
      rw [g.2.1, show (0 : Int) = bonS (facF Y p (Y 127 p) (pc m)) B by rw [e]; rfl]
      exact c_witK (d := d + 2) h hp wg.2.1 (pc_le m) (pc_and_le m kn) ⟨_, rfl, hs, hQ _ (Agk.rf hs)⟩
    · rw [e8] at h8
      cases h8
  · rcases h.held with ⟨-, e8⟩ | ⟨b, hb, hr, e8⟩
    · rw [e8] at h8
      cases h8
    · rw [e8] at h8
      obtain rfl := Option.some.inj h8
      rw [g.2.1, hc.1.2.2.1]
      refine ⟨⟨b, hb, rfl⟩, _, e8, ⟨b, hb, rfl⟩, c_bonus (d := d + 1) h hb hr hp wg.2.1 (pc_le m) (fun σ' hA => ⟨_, rfl, hA.1, c_bitCount hl ⟨_, rfl, hA.1, ?_⟩⟩)⟩
      rw [((h.f85 hA).g hp6).2.1]
      exact c_witK (d := d + 2) (h.f85 hA) hp wg.2.1 (pc_le m) (pc_and_le m kn) ⟨_, rfl, hA.1, hQ _ hA⟩
theorem witS_r (h : YB σ y Y B) {p : Nat} (hp : (p : Int) < Y 125 0) {kn m : Nat} : -10000 ≤ witS B Y p (Y 127 p) kn m ∧ witS B Y p (Y 127 p) kn m ≤ 10000 := by
  have hc := h.c
  have hp6 : p < 6 := by omega
  exact witN_r h.2.2.2.1 h.2.2.2.2.1 hp6 (h.2.2.2.1.g hp6).2.1 (pc_le m) (pc_and_le m kn)
def ansY (B : List mCl) (Y : mY) (p m : Nat) : Bool := ansS B Y p (Y 127 p) (Y 128 p).toNat m
theorem c_ansNow (h : YB σ y Y B) {p : Nat} (hp : (p : Int) < Y 125 0) {m : Nat} (hm : m < 4096) (hQ : ∀ σ', Agk D85 σ σ' → Q (some (vI (bB (ansY B Y p m)))) σ') : CALL X (d + 6) (0, 0) MX7_answers [vP (some 83), vP (some y), vI (p : Int), vI (m : Int)] σ Q := by
  have hs := h.1
  have hc := h.c
  have hp6 : p < 6 := by omega
  have g := h.g hp6
  have wg := h.2.2.2.1.g hp6
  refine C_X7_answers hs h.2.1 (c_guardY h hp ⟨_, rfl, hs, fun hz => (by cases hz), fun a ha => ?_⟩)
  obtain rfl := Option.some.inj ha
  obtain ⟨kn, hkn⟩ : ∃ n : Nat, Y 128 p = (n : Int) := ⟨(Y 128 p).toNat, by omega⟩
  unfold ansY at hQ
  rw [hkn, show ((kn : Int)).toNat = kn by omega] at hQ
  rw [g.2.2.1, hkn]
  have hr := witS_r h hp (kn := kn) (m := m)
  refine ⟨h.isG hp6, c_wit (d := d + 1) h hp (by omega) hm (fun σ' hA => ⟨_, rfl, hA.1, by omega, fun hz => ?_, fun hz => ?_⟩)⟩
  · have := hQ σ' hA
    unfold ansS at this
    rw [decide_eq_false (by omega)] at this
    exact this
  · have := hQ σ' hA
    unfold ansS at this
    rw [decide_eq_true (by omega)] at this
    exact this
end WITXB
