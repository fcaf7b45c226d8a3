/-! BOTH CONSTRUCTORS, run step by step (written by wip/whole/gen92.py) -/
def refL : List (Nat × Nat × Nat) := [(125, 48, 157), (125, 47, 156), (125, 46, 155), (125, 44, 154), (125, 43, 153), (125, 42, 152), (125, 41, 151), (125, 39, 150), (125, 37, 149), (125, 36, 148), (125, 34, 147), (125, 33, 146), (125, 31, 145), (125, 30, 144), (125, 29, 143), (125, 27, 142), (125, 25, 141), (125, 24, 140), (125, 23, 139), (125, 22, 138), (125, 21, 137), (125, 20, 136), (125, 13, 135), (125, 10, 134), (125, 9, 133), (125, 8, 132), (125, 7, 131), (125, 5, 130), (125, 4, 129), (125, 3, 128), (125, 2, 127), (125, 1, 126), (112, 5, 123), (123, 0, 124), (112, 4, 121), (121, 0, 122), (112, 3, 119), (119, 0, 120), (112, 2, 117), (117, 0, 118), (112, 1, 115), (115, 0, 116), (112, 0, 113), (113, 0, 114), (0, 7, 112), (0, 6, 110), (110, 0, 111), (0, 5, 108), (108, 0, 109), (0, 4, 83), (0, 3, 82), (82, 5, 107), (82, 4, 106), (82, 3, 105), (82, 2, 104), (82, 1, 103), (82, 0, 83), (84, 5, 100), (100, 1, 102), (100, 0, 101), (84, 4, 97), (97, 1, 99), (97, 0, 98), (84, 3, 94), (94, 1, 96), (94, 0, 95), (84, 2, 91), (91, 1, 93), (91, 0, 92), (84, 1, 88), (88, 1, 90), (88, 0, 89), (84, 0, 85), (85, 1, 87), (85, 0, 86), (83, 0, 84), (0, 2, 55), (57, 5, 81), (56, 5, 79), (79, 4, 80), (57, 4, 78), (56, 4, 76), (76, 4, 77), (57, 3, 75), (56, 3, 73), (73, 4, 74), (57, 2, 72), (56, 2, 70), (70, 4, 71), (57, 1, 69), (56, 1, 67), (67, 4, 68), (57, 0, 66), (56, 0, 64), (64, 4, 65), (55, 4, 62), (62, 0, 63), (55, 3, 60), (60, 0, 61), (55, 2, 58), (58, 0, 59), (55, 1, 57), (55, 0, 56), (0, 1, 28), (30, 5, 54), (29, 5, 52), (52, 4, 53), (30, 4, 51), (29, 4, 49), (49, 4, 50), (30, 3, 48), (29, 3, 46), (46, 4, 47), (30, 2, 45), (29, 2, 43), (43, 4, 44), (30, 1, 42), (29, 1, 40), (40, 4, 41), (30, 0, 39), (29, 0, 37), (37, 4, 38), (28, 4, 35), (35, 0, 36), (28, 3, 33), (33, 0, 34), (28, 2, 31), (31, 0, 32), (28, 1, 30), (28, 0, 29), (0, 0, 1), (3, 5, 27), (2, 5, 25), (25, 4, 26), (3, 4, 24), (2, 4, 22), (22, 4, 23), (3, 3, 21), (2, 3, 19), (19, 4, 20), (3, 2, 18), (2, 2, 16), (16, 4, 17), (3, 1, 15), (2, 1, 13), (13, 4, 14), (3, 0, 12), (2, 0, 10), (10, 4, 11), (1, 4, 8), (8, 0, 9), (1, 3, 6), (6, 0, 7), (1, 2, 4), (4, 0, 5), (1, 1, 3), (1, 0, 2)]
def intL : List (Nat × Nat × Int) := [(155, 5, -1), (155, 4, -1), (155, 3, -1), (155, 2, -1), (155, 1, -1), (155, 0, -1), (125, 19, -1), (123, 1, -1), (121, 1, -1), (119, 1, -1), (117, 1, -1), (115, 1, -1), (113, 1, -1), (62, 1, 8), (60, 1, 10), (58, 1, 5), (55, 8, -1), (35, 1, 8), (33, 1, 10), (31, 1, 5), (28, 8, -1), (8, 1, 8), (6, 1, 10), (4, 1, 5), (1, 8, -1)]
def lkR : List (Nat × Nat × Nat) → Nat → Nat → Option Nat
  | [] => fun _ _ => none
  | e :: t => fun x y => if x = e.1 ∧ y = e.2.1 then some e.2.2 else lkR t x y
def lkI : List (Nat × Nat × Int) → Nat → Nat → Int
  | [] => fun _ _ => 0
  | e :: t => fun x y => if x = e.1 ∧ y = e.2.1 then e.2.2 else lkI t x y
def stK (n i r : Nat) : mS := (SHL.take n, lkI (intL.drop i), fun _ _ => 0, lkR (refL.drop r))
def okKst (n i r : Nat) : Bool := Nat.ble n 158 && (intL.drop i).all (fun e => Nat.blt e.1 n) && (refL.drop r).all (fun e => Nat.blt e.1 n)
theorem lkR_no {n : Nat} : ∀ (L : List (Nat × Nat × Nat)), L.all (fun e => Nat.blt e.1 n) = true → ∀ y, lkR L n y = none
  | [], _, _ => rfl
  | e :: t, h, y => by
    simp only [List.all_cons, Bool.and_eq_true, Nat.blt_eq] at h
    simp only [lkR]
    rw [if_neg (by omega)]
    exact lkR_no t h.2 y
theorem lkI_no {n : Nat} : ∀ (L : List (Nat × Nat × Int)), L.all (fun e => Nat.blt e.1 n) = true → ∀ y, lkI L n y = 0
  | [], _, _ => rfl
  | e :: t, h, y => by
    simp only [List.all_cons, Bool.and_eq_true, Nat.blt_eq] at h
    simp only [lkI]
    rw [if_neg (by omega)]
    exact lkI_no t h.2 y
theorem SHL_len : SHL.length = 158 := by decide +kernel
theorem dI_ne {kd : Nat × Nat} {j : Nat} (h : ¬ kd.1 = 9) : dI kd j = 0 := if_neg h
theorem eNst {S : mS} {n i r : Nat} (e : S = stK n i r) (kd : Nat × Nat) {n' : Nat} (hn : n' = n + 1) (hk : SHL[n]? = some kd) (hc : okKst n i r = true) (h9 : ¬ kd.1 = 9) : mNew S kd = stK n' i r := by
  subst hn
  subst e
  simp only [okKst, Bool.and_eq_true] at hc
  obtain ⟨⟨c1, c2⟩, c3⟩ := hc
  have hl : (SHL.take n).length = n := by rw [List.length_take, SHL_len]; have := Nat.le_of_ble_eq_true c1; omega
  unfold mNew stK
  simp only [hl]
  refine Prod.ext ?_ (Prod.ext ?_ (Prod.ext ?_ ?_))
  · simp only [List.take_add_one, hk, Option.toList]
  · funext b j
    simp only
    split
    · rename_i hb; subst hb; rw [dI_ne h9]; exact (lkI_no _ c2 j).symm
    · rfl
  · funext b j
    simp only
    split <;> rfl
  · funext b j
    simp only
    split
    · rename_i hb; subst hb; exact (lkR_no _ c3 j).symm
    · rfl
theorem eNst9 {S : mS} {n i r : Nat} (e : S = stK n (i + 1) r) {n' : Nat} (hn : n' = n + 1) (hk : SHL[n]? = some (9, 0)) (hi : intL[i]? = some (n, 8, -1)) (hc : okKst n (i + 1) r = true) : mNew S (9, 0) = stK n' i r := by
  subst hn
  subst e
  simp only [okKst, Bool.and_eq_true] at hc
  obtain ⟨⟨c1, c2⟩, c3⟩ := hc
  have hl : (SHL.take n).length = n := by rw [List.length_take, SHL_len]; have := Nat.le_of_ble_eq_true c1; omega
  unfold mNew stK
  simp only [hl]
  refine Prod.ext ?_ (Prod.ext ?_ (Prod.ext ?_ ?_))
  · simp only [List.take_add_one, hk, Option.toList]
  · funext b j
    simp only
    split
    · rename_i hb
      subst hb
      obtain ⟨g1, g2⟩ := List.getElem?_eq_some_iff.1 hi
      rw [List.drop_eq_getElem_cons g1, g2]
      simp only [lkI]
      by_cases hj : j = 8
      · subst hj
        rw [if_pos ⟨trivial, rfl⟩]
        rfl
      · rw [if_neg (fun q => hj q.2), lkI_no _ c2 j]
        exact if_neg hj
    · rename_i hb
      obtain ⟨g1, g2⟩ := List.getElem?_eq_some_iff.1 hi
      rw [List.drop_eq_getElem_cons g1, g2]
      simp only [lkI]
      rw [if_neg (fun q => hb q.1)]
  · funext b j
    simp only
    split <;> rfl
  · funext b j
    simp only
    split
    · rename_i hb; subst hb; exact (lkR_no _ c3 j).symm
    · rfl
theorem eRst {S : mS} {n i r : Nat} (e : S = stK n i (r + 1)) (a k b : Nat) (hr : refL[r]? = some (a, k, b)) : sR S a k (some b) = stK n i r := by
  subst e
  obtain ⟨h1, h2⟩ := List.getElem?_eq_some_iff.1 hr
  unfold sR stK
  rw [List.drop_eq_getElem_cons h1, h2]
  rfl
theorem eRst2 {S : mS} {n i r : Nat} {v : Option Nat} {b : Nat} (e : S = stK n i (r + 1)) (a k : Nat) (hv : v = some b) (hr : refL[r]? = some (a, k, b)) : sR S a k v = stK n i r := by
  subst hv
  exact eRst e a k b hr
theorem eIst {S : mS} {n i r : Nat} (e : S = stK n (i + 1) r) (a k : Nat) (b : Int) (hr : intL[i]? = some (a, k, b)) : sI S a k b = stK n i r := by
  subst e
  obtain ⟨h1, h2⟩ := List.getElem?_eq_some_iff.1 hr
  unfold sI stK
  rw [List.drop_eq_getElem_cons h1, h2]
  rfl
theorem eFst {S : mS} {n i r a k b : Nat} (e : S = stK n i r) (h : lkR (refL.drop r) a k = some b) : S.2.2.2 a k = some b := by subst e; exact h
theorem eKst {S : mS} {n i r a : Nat} {kd : Nat × Nat} (e : S = stK n i r) (h : (SHL.take n)[a]? = some kd) : S.1[a]? = some kd := by subst e; exact h
theorem eZst {S S' : mS} {Q : Option mV → mS → Prop} (e : S = S') (h : Q none S') : Q none S := e ▸ h
theorem CALL.st {X : mX} {d : Nat} {b : Nat × Nat} {M : mM} {As : List mV} {S S' : mS} {Q : Option mV → mS → Prop} (e : S = S') (k : CALL X d b M As S' Q) : CALL X d b M As S Q := e ▸ k
theorem made_rows {X : mX} {d a0 n0 : Nat} {x1 : Int} {σ : mS} {Q : Option mV → mS → Prop} (hn : σ.1.length = n0) (h : (0 ≤ x1 ∧ x1 ≤ 100) ∧ σ.1[a0]? = some (6, 0) ∧ Q none (sR (mNew (sI σ a0 1 x1) (50, (x1 * 3).toNat)) a0 0 (some n0))) : CALL X (d + 1) (1, (max 0 (min x1 100) * 3).toNat) MX6_init [vP (some a0), vI x1] σ Q := by
  obtain ⟨h1, h2, h3⟩ := h
  have e : max 0 (min x1 100) = x1 := by omega
  have e2 : (sI σ a0 1 x1).2.1 a0 1 = x1 := by rw [sI_at, if_pos ⟨rfl, rfl⟩]
  have ha : a0 < σ.1.length := (List.getElem?_eq_some_iff.1 h2).1
  refine B_X6_init hn ⟨by omega, by omega, h2, h2, ?_⟩
  rw [e, e2]
  refine ⟨by omega, by omega, ?_, h3⟩
  show (σ.1 ++ [_])[a0]? = _
  rw [List.getElem?_append_left ha]
  exact h2
theorem made_6_4 {X : mX} {d : Nat} {Q : Option mV → mS → Prop} (h : Q none (stK 6 23 154)) : CALL X (d + 57 + 1) (1, 15) MX6_init [vP (some 4), vI 5] (stK 5 24 155) Q := by
  have s0 : stK 5 24 155 = stK 5 24 155 := rfl
  have s1 := eIst s0 4 1 (5) (by decide +kernel)
  have s2 := eNst s1 (50, 15) rfl (by decide +kernel) (by decide +kernel) (by decide)
  have s3 := eRst s2 4 0 5 (by decide +kernel)
  exact made_rows (d := d + 57) (x1 := 5) (n0 := 5) (by decide +kernel) ⟨⟨by decide, by decide⟩, eKst s0 (by decide +kernel), eZst s3 h⟩
theorem made_6_6 {X : mX} {d : Nat} {Q : Option mV → mS → Prop} (h : Q none (stK 8 22 152)) : CALL X (d + 57 + 1) (1, 30) MX6_init [vP (some 6), vI 10] (stK 7 23 153) Q := by
  have s0 : stK 7 23 153 = stK 7 23 153 := rfl
  have s1 := eIst s0 6 1 (10) (by decide +kernel)
  have s2 := eNst s1 (50, 30) rfl (by decide +kernel) (by decide +kernel) (by decide)
  have s3 := eRst s2 6 0 7 (by decide +kernel)
  exact made_rows (d := d + 57) (x1 := 10) (n0 := 7) (by decide +kernel) ⟨⟨by decide, by decide⟩, eKst s0 (by decide +kernel), eZst s3 h⟩
theorem made_6_8 {X : mX} {d : Nat} {Q : Option mV → mS → Prop} (h : Q none (stK 10 21 150)) : CALL X (d + 57 + 1) (1, 24) MX6_init [vP (some 8), vI 8] (stK 9 22 151) Q := by
  have s0 : stK 9 22 151 = stK 9 22 151 := rfl
  have s1 := eIst s0 8 1 (8) (by decide +kernel)
  have s2 := eNst s1 (50, 24) rfl (by decide +kernel) (by decide +kernel) (by decide)
  have s3 := eRst s2 8 0 9 (by decide +kernel)
  exact made_rows (d := d + 57) (x1 := 8) (n0 := 9) (by decide +kernel) ⟨⟨by decide, by decide⟩, eKst s0 (by decide +kernel), eZst s3 h⟩
theorem made_3_10 {X : mX} {d : Nat} {Q : Option mV → mS → Prop} (h : Q none (stK 12 21 148)) : CALL X (d + 57 + 1) (1, 4) MX3_init [vP (some 10)] (stK 11 21 149) Q := by
  have s0 : stK 11 21 149 = stK 11 21 149 := rfl
  have s1 := eNst s0 (50, 4) rfl (by decide +kernel) (by decide +kernel) (by decide)
  have s2 := eRst s1 10 4 11 (by decide +kernel)
  exact B_X3_init (d := d + 57) (n0 := 11) (by decide +kernel) ⟨eKst s1 (by decide +kernel), eZst s2 h⟩
theorem made_4_12 {X : mX} {d : Nat} {Q : Option mV → mS → Prop} (h : Q none (stK 13 21 147)) : CALL X (d + 57 + 1) (0, 0) MX4_init [vP (some 12)] (stK 13 21 147) Q := by
  have s0 : stK 13 21 147 = stK 13 21 147 := rfl
  exact B_X4_init (d := d + 57) (n0 := 13) (by decide +kernel) (eZst s0 h)
theorem made_3_13 {X : mX} {d : Nat} {Q : Option mV → mS → Prop} (h : Q none (stK 15 21 145)) : CALL X (d + 57 + 1) (1, 4) MX3_init [vP (some 13)] (stK 14 21 146) Q := by
  have s0 : stK 14 21 146 = stK 14 21 146 := rfl
  have s1 := eNst s0 (50, 4) rfl (by decide +kernel) (by decide +kernel) (by decide)
  have s2 := eRst s1 13 4 14 (by decide +kernel)
  exact B_X3_init (d := d + 57) (n0 := 14) (by decide +kernel) ⟨eKst s1 (by decide +kernel), eZst s2 h⟩
theorem made_4_15 {X : mX} {d : Nat} {Q : Option mV → mS → Prop} (h : Q none (stK 16 21 144)) : CALL X (d + 57 + 1) (0, 0) MX4_init [vP (some 15)] (stK 16 21 144) Q := by
  have s0 : stK 16 21 144 = stK 16 21 144 := rfl
  exact B_X4_init (d := d + 57) (n0 := 16) (by decide +kernel) (eZst s0 h)
theorem made_3_16 {X : mX} {d : Nat} {Q : Option mV → mS → Prop} (h : Q none (stK 18 21 142)) : CALL X (d + 57 + 1) (1, 4) MX3_init [vP (some 16)] (stK 17 21 143) Q := by
  have s0 : stK 17 21 143 = stK 17 21 143 := rfl
  have s1 := eNst s0 (50, 4) rfl (by decide +kernel) (by decide +kernel) (by decide)
  have s2 := eRst s1 16 4 17 (by decide +kernel)
  exact B_X3_init (d := d + 57) (n0 := 17) (by decide +kernel) ⟨eKst s1 (by decide +kernel), eZst s2 h⟩
theorem made_4_18 {X : mX} {d : Nat} {Q : Option mV → mS → Prop} (h : Q none (stK 19 21 141)) : CALL X (d + 57 + 1) (0, 0) MX4_init [vP (some 18)] (stK 19 21 141) Q := by
  have s0 : stK 19 21 141 = stK 19 21 141 := rfl
  exact B_X4_init (d := d + 57) (n0 := 19) (by decide +kernel) (eZst s0 h)
theorem made_3_19 {X : mX} {d : Nat} {Q : Option mV → mS → Prop} (h : Q none (stK 21 21 139)) : CALL X (d + 57 + 1) (1, 4) MX3_init [vP (some 19)] (stK 20 21 140) Q := by
  have s0 : stK 20 21 140 = stK 20 21 140 := rfl
  have s1 := eNst s0 (50, 4) rfl (by decide +kernel) (by decide +kernel) (by decide)
  have s2 := eRst s1 19 4 20 (by decide +kernel)
  exact B_X3_init (d := d + 57) (n0 := 20) (by decide +kernel) ⟨eKst s1 (by decide +kernel), eZst s2 h⟩
theorem made_4_21 {X : mX} {d : Nat} {Q : Option mV → mS → Prop} (h : Q none (stK 22 21 138)) : CALL X (d + 57 + 1) (0, 0) MX4_init [vP (some 21)] (stK 22 21 138) Q := by
  have s0 : stK 22 21 138 = stK 22 21 138 := rfl
  exact B_X4_init (d := d + 57) (n0 := 22) (by decide +kernel) (eZst s0 h)
theorem made_3_22 {X : mX} {d : Nat} {Q : Option mV → mS → Prop} (h : Q none (stK 24 21 136)) : CALL X (d + 57 + 1) (1, 4) MX3_init [vP (some 22)] (stK 23 21 137) Q := by
  have s0 : stK 23 21 137 = stK 23 21 137 := rfl
  have s1 := eNst s0 (50, 4) rfl (by decide +kernel) (by decide +kernel) (by decide)
  have s2 := eRst s1 22 4 23 (by decide +kernel)
  exact B_X3_init (d := d + 57) (n0 := 23) (by decide +kernel) ⟨eKst s1 (by decide +kernel), eZst s2 h⟩
theorem made_4_24 {X : mX} {d : Nat} {Q : Option mV → mS → Prop} (h : Q none (stK 25 21 135)) : CALL X (d + 57 + 1) (0, 0) MX4_init [vP (some 24)] (stK 25 21 135) Q := by
  have s0 : stK 25 21 135 = stK 25 21 135 := rfl
  exact B_X4_init (d := d + 57) (n0 := 25) (by decide +kernel) (eZst s0 h)
theorem made_3_25 {X : mX} {d : Nat} {Q : Option mV → mS → Prop} (h : Q none (stK 27 21 133)) : CALL X (d + 57 + 1) (1, 4) MX3_init [vP (some 25)] (stK 26 21 134) Q := by
  have s0 : stK 26 21 134 = stK 26 21 134 := rfl
  have s1 := eNst s0 (50, 4) rfl (by decide +kernel) (by decide +kernel) (by decide)
  have s2 := eRst s1 25 4 26 (by decide +kernel)
  exact B_X3_init (d := d + 57) (n0 := 26) (by decide +kernel) ⟨eKst s1 (by decide +kernel), eZst s2 h⟩
theorem made_4_27 {X : mX} {d : Nat} {Q : Option mV → mS → Prop} (h : Q none (stK 28 21 132)) : CALL X (d + 57 + 1) (0, 0) MX4_init [vP (some 27)] (stK 28 21 132) Q := by
  have s0 : stK 28 21 132 = stK 28 21 132 := rfl
  exact B_X4_init (d := d + 57) (n0 := 28) (by decide +kernel) (eZst s0 h)
theorem made_9_1 {X : mX} {d : Nat} {Q : Option mV → mS → Prop} (h : Q none (stK 28 21 131)) : CALL X (d + 58 + 1) (26, 168) MX9_init [vP (some 1)] (stK 2 24 157) Q := by
  have s0 : stK 2 24 157 = stK 2 24 157 := rfl
  have s1 := eNst s0 (54, 6) rfl (by decide +kernel) (by decide +kernel) (by decide)
  have s2 := eRst s1 1 0 2 (by decide +kernel)
  have s3 := eNst s2 (55, 6) rfl (by decide +kernel) (by decide +kernel) (by decide)
  have s4 := eRst s3 1 1 3 (by decide +kernel)
  have s5 := eNst s4 (6, 0) rfl (by decide +kernel) (by decide +kernel) (by decide)
  have sq5 : stK 6 23 154 = stK 6 23 154 := rfl
  have s7 := eRst sq5 1 2 4 (by decide +kernel)
  have s8 := eNst s7 (6, 0) rfl (by decide +kernel) (by decide +kernel) (by decide)
  have sq8 : stK 8 22 152 = stK 8 22 152 := rfl
  have s10 := eRst sq8 1 3 6 (by decide +kernel)
  have s11 := eNst s10 (6, 0) rfl (by decide +kernel) (by decide +kernel) (by decide)
  have sq11 : stK 10 21 150 = stK 10 21 150 := rfl
  have s13 := eRst sq11 1 4 8 (by decide +kernel)
  have s14 := eNst s13 (3, 0) rfl (by decide +kernel) (by decide +kernel) (by decide)
  have sq14 : stK 12 21 148 = stK 12 21 148 := rfl
  have s16 := eRst sq14 2 0 10 (by decide +kernel)
  have s17 := eNst s16 (4, 0) rfl (by decide +kernel) (by decide +kernel) (by decide)
  have sq17 : stK 13 21 147 = stK 13 21 147 := rfl
  have s19 := eRst sq17 3 0 12 (by decide +kernel)
  have s20 := eNst s19 (3, 0) rfl (by decide +kernel) (by decide +kernel) (by decide)
  have sq20 : stK 15 21 145 = stK 15 21 145 := rfl
  have s22 := eRst sq20 2 1 13 (by decide +kernel)
  have s23 := eNst s22 (4, 0) rfl (by decide +kernel) (by decide +kernel) (by decide)
  have sq23 : stK 16 21 144 = stK 16 21 144 := rfl
  have s25 := eRst sq23 3 1 15 (by decide +kernel)
  have s26 := eNst s25 (3, 0) rfl (by decide +kernel) (by decide +kernel) (by decide)
  have sq26 : stK 18 21 142 = stK 18 21 142 := rfl
  have s28 := eRst sq26 2 2 16 (by decide +kernel)
  have s29 := eNst s28 (4, 0) rfl (by decide +kernel) (by decide +kernel) (by decide)
  have sq29 : stK 19 21 141 = stK 19 21 141 := rfl
  have s31 := eRst sq29 3 2 18 (by decide +kernel)
  have s32 := eNst s31 (3, 0) rfl (by decide +kernel) (by decide +kernel) (by decide)
  have sq32 : stK 21 21 139 = stK 21 21 139 := rfl
  have s34 := eRst sq32 2 3 19 (by decide +kernel)
  have s35 := eNst s34 (4, 0) rfl (by decide +kernel) (by decide +kernel) (by decide)
  have sq35 : stK 22 21 138 = stK 22 21 138 := rfl
  have s37 := eRst sq35 3 3 21 (by decide +kernel)
  have s38 := eNst s37 (3, 0) rfl (by decide +kernel) (by decide +kernel) (by decide)
  have sq38 : stK 24 21 136 = stK 24 21 136 := rfl
  have s40 := eRst sq38 2 4 22 (by decide +kernel)
  have s41 := eNst s40 (4, 0) rfl (by decide +kernel) (by decide +kernel) (by decide)
  have sq41 : stK 25 21 135 = stK 25 21 135 := rfl
  have s43 := eRst sq41 3 4 24 (by decide +kernel)
  have s44 := eNst s43 (3, 0) rfl (by decide +kernel) (by decide +kernel) (by decide)
  have sq44 : stK 27 21 133 = stK 27 21 133 := rfl
  have s46 := eRst sq44 2 5 25 (by decide +kernel)
  have s47 := eNst s46 (4, 0) rfl (by decide +kernel) (by decide +kernel) (by decide)
  have sq47 : stK 28 21 132 = stK 28 21 132 := rfl
  have s49 := eRst sq47 3 5 27 (by decide +kernel)
  exact B_X9_init (d := d + 58) (n0 := 2) (by decide +kernel) ⟨eKst s1 (by decide +kernel), eKst s3 (by decide +kernel), CALL.st s5 (made_6_4 (d := d) ⟨rfl, by decide +kernel, eKst sq5 (by decide +kernel), CALL.st s8 (made_6_6 (d := d) ⟨rfl, by decide +kernel, eKst sq8 (by decide +kernel), CALL.st s11 (made_6_8 (d := d) ⟨rfl, by decide +kernel, eKst sq11 (by decide +kernel), eKst s13 (by decide +kernel), CALL.st s14 (made_3_10 (d := d) ⟨rfl, by decide +kernel, 2, eFst s13 (by decide +kernel), ⟨6, eKst sq14 (by decide +kernel), by decide, by decide, by decide⟩, eKst sq14 (by decide +kernel), eKst s16 (by decide +kernel), CALL.st s17 (made_4_12 (d := d) ⟨rfl, by decide +kernel, 3, eFst s16 (by decide +kernel), ⟨6, eKst sq17 (by decide +kernel), by decide, by decide, by decide⟩, eKst sq17 (by decide +kernel), eKst s19 (by decide +kernel), CALL.st s20 (made_3_13 (d := d) ⟨rfl, by decide +kernel, 2, eFst s19 (by decide +kernel), ⟨6, eKst sq20 (by decide +kernel), by decide, by decide, by decide⟩, eKst sq20 (by decide +kernel), eKst s22 (by decide +kernel), CALL.st s23 (made_4_15 (d := d) ⟨rfl, by decide +kernel, 3, eFst s22 (by decide +kernel), ⟨6, eKst sq23 (by decide +kernel), by decide, by decide, by decide⟩, eKst sq23 (by decide +kernel), eKst s25 (by decide +kernel), CALL.st s26 (made_3_16 (d := d) ⟨rfl, by decide +kernel, 2, eFst s25 (by decide +kernel), ⟨6, eKst sq26 (by decide +kernel), by decide, by decide, by decide⟩, eKst sq26 (by decide +kernel), eKst s28 (by decide +kernel), CALL.st s29 (made_4_18 (d := d) ⟨rfl, by decide +kernel, 3, eFst s28 (by decide +kernel), ⟨6, eKst sq29 (by decide +kernel), by decide, by decide, by decide⟩, eKst sq29 (by decide +kernel), eKst s31 (by decide +kernel), CALL.st s32 (made_3_19 (d := d) ⟨rfl, by decide +kernel, 2, eFst s31 (by decide +kernel), ⟨6, eKst sq32 (by decide +kernel), by decide, by decide, by decide⟩, eKst sq32 (by decide +kernel), eKst s34 (by decide +kernel), CALL.st s35 (made_4_21 (d := d) ⟨rfl, by decide +kernel, 3, eFst s34 (by decide +kernel), ⟨6, eKst sq35 (by decide +kernel), by decide, by decide, by decide⟩, eKst sq35 (by decide +kernel), eKst s37 (by decide +kernel), CALL.st s38 (made_3_22 (d := d) ⟨rfl, by decide +kernel, 2, eFst s37 (by decide +kernel), ⟨6, eKst sq38 (by decide +kernel), by decide, by decide, by decide⟩, eKst sq38 (by decide +kernel), eKst s40 (by decide +kernel), CALL.st s41 (made_4_24 (d := d) ⟨rfl, by decide +kernel, 3, eFst s40 (by decide +kernel), ⟨6, eKst sq41 (by decide +kernel), by decide, by decide, by decide⟩, eKst sq41 (by decide +kernel), eKst s43 (by decide +kernel), CALL.st s44 (made_3_25 (d := d) ⟨rfl, by decide +kernel, 2, eFst s43 (by decide +kernel), ⟨6, eKst sq44 (by decide +kernel), by decide, by decide, by decide⟩, eKst sq44 (by decide +kernel), eKst s46 (by decide +kernel), CALL.st s47 (made_4_27 (d := d) ⟨rfl, by decide +kernel, 3, eFst s46 (by decide +kernel), ⟨6, eKst sq47 (by decide +kernel), by decide, by decide, by decide⟩, eKst sq47 (by decide +kernel), eZst s49 h⟩)⟩)⟩)⟩)⟩)⟩)⟩)⟩)⟩)⟩)⟩)⟩)⟩)⟩)⟩)⟩
theorem made_6_31 {X : mX} {d : Nat} {Q : Option mV → mS → Prop} (h : Q none (stK 33 19 127)) : CALL X (d + 57 + 1) (1, 15) MX6_init [vP (some 31), vI 5] (stK 32 20 128) Q := by
  have s0 : stK 32 20 128 = stK 32 20 128 := rfl
  have s1 := eIst s0 31 1 (5) (by decide +kernel)
  have s2 := eNst s1 (50, 15) rfl (by decide +kernel) (by decide +kernel) (by decide)
  have s3 := eRst s2 31 0 32 (by decide +kernel)
  exact made_rows (d := d + 57) (x1 := 5) (n0 := 32) (by decide +kernel) ⟨⟨by decide, by decide⟩, eKst s0 (by decide +kernel), eZst s3 h⟩
theorem made_6_33 {X : mX} {d : Nat} {Q : Option mV → mS → Prop} (h : Q none (stK 35 18 125)) : CALL X (d + 57 + 1) (1, 30) MX6_init [vP (some 33), vI 10] (stK 34 19 126) Q := by
  have s0 : stK 34 19 126 = stK 34 19 126 := rfl
  have s1 := eIst s0 33 1 (10) (by decide +kernel)
  have s2 := eNst s1 (50, 30) rfl (by decide +kernel) (by decide +kernel) (by decide)
  have s3 := eRst s2 33 0 34 (by decide +kernel)
  exact made_rows (d := d + 57) (x1 := 10) (n0 := 34) (by decide +kernel) ⟨⟨by decide, by decide⟩, eKst s0 (by decide +kernel), eZst s3 h⟩
theorem made_6_35 {X : mX} {d : Nat} {Q : Option mV → mS → Prop} (h : Q none (stK 37 17 123)) : CALL X (d + 57 + 1) (1, 24) MX6_init [vP (some 35), vI 8] (stK 36 18 124) Q := by
  have s0 : stK 36 18 124 = stK 36 18 124 := rfl
  have s1 := eIst s0 35 1 (8) (by decide +kernel)
  have s2 := eNst s1 (50, 24) rfl (by decide +kernel) (by decide +kernel) (by decide)
  have s3 := eRst s2 35 0 36 (by decide +kernel)
  exact made_rows (d := d + 57) (x1 := 8) (n0 := 36) (by decide +kernel) ⟨⟨by decide, by decide⟩, eKst s0 (by decide +kernel), eZst s3 h⟩
theorem made_3_37 {X : mX} {d : Nat} {Q : Option mV → mS → Prop} (h : Q none (stK 39 17 121)) : CALL X (d + 57 + 1) (1, 4) MX3_init [vP (some 37)] (stK 38 17 122) Q := by
  have s0 : stK 38 17 122 = stK 38 17 122 := rfl
  have s1 := eNst s0 (50, 4) rfl (by decide +kernel) (by decide +kernel) (by decide)
  have s2 := eRst s1 37 4 38 (by decide +kernel)
  exact B_X3_init (d := d + 57) (n0 := 38) (by decide +kernel) ⟨eKst s1 (by decide +kernel), eZst s2 h⟩
theorem made_4_39 {X : mX} {d : Nat} {Q : Option mV → mS → Prop} (h : Q none (stK 40 17 120)) : CALL X (d + 57 + 1) (0, 0) MX4_init [vP (some 39)] (stK 40 17 120) Q := by
  have s0 : stK 40 17 120 = stK 40 17 120 := rfl
  exact B_X4_init (d := d + 57) (n0 := 40) (by decide +kernel) (eZst s0 h)
theorem made_3_40 {X : mX} {d : Nat} {Q : Option mV → mS → Prop} (h : Q none (stK 42 17 118)) : CALL X (d + 57 + 1) (1, 4) MX3_init [vP (some 40)] (stK 41 17 119) Q := by
  have s0 : stK 41 17 119 = stK 41 17 119 := rfl
  have s1 := eNst s0 (50, 4) rfl (by decide +kernel) (by decide +kernel) (by decide)
  have s2 := eRst s1 40 4 41 (by decide +kernel)
  exact B_X3_init (d := d + 57) (n0 := 41) (by decide +kernel) ⟨eKst s1 (by decide +kernel), eZst s2 h⟩
theorem made_4_42 {X : mX} {d : Nat} {Q : Option mV → mS → Prop} (h : Q none (stK 43 17 117)) : CALL X (d + 57 + 1) (0, 0) MX4_init [vP (some 42)] (stK 43 17 117) Q := by
  have s0 : stK 43 17 117 = stK 43 17 117 := rfl
  exact B_X4_init (d := d + 57) (n0 := 43) (by decide +kernel) (eZst s0 h)
theorem made_3_43 {X : mX} {d : Nat} {Q : Option mV → mS → Prop} (h : Q none (stK 45 17 115)) : CALL X (d + 57 + 1) (1, 4) MX3_init [vP (some 43)] (stK 44 17 116) Q := by
  have s0 : stK 44 17 116 = stK 44 17 116 := rfl
  have s1 := eNst s0 (50, 4) rfl (by decide +kernel) (by decide +kernel) (by decide)
  have s2 := eRst s1 43 4 44 (by decide +kernel)
  exact B_X3_init (d := d + 57) (n0 := 44) (by decide +kernel) ⟨eKst s1 (by decide +kernel), eZst s2 h⟩
theorem made_4_45 {X : mX} {d : Nat} {Q : Option mV → mS → Prop} (h : Q none (stK 46 17 114)) : CALL X (d + 57 + 1) (0, 0) MX4_init [vP (some 45)] (stK 46 17 114) Q := by
  have s0 : stK 46 17 114 = stK 46 17 114 := rfl
  exact B_X4_init (d := d + 57) (n0 := 46) (by decide +kernel) (eZst s0 h)
theorem made_3_46 {X : mX} {d : Nat} {Q : Option mV → mS → Prop} (h : Q none (stK 48 17 112)) : CALL X (d + 57 + 1) (1, 4) MX3_init [vP (some 46)] (stK 47 17 113) Q := by
  have s0 : stK 47 17 113 = stK 47 17 113 := rfl
  have s1 := eNst s0 (50, 4) rfl (by decide +kernel) (by decide +kernel) (by decide)
  have s2 := eRst s1 46 4 47 (by decide +kernel)
  exact B_X3_init (d := d + 57) (n0 := 47) (by decide +kernel) ⟨eKst s1 (by decide +kernel), eZst s2 h⟩
theorem made_4_48 {X : mX} {d : Nat} {Q : Option mV → mS → Prop} (h : Q none (stK 49 17 111)) : CALL X (d + 57 + 1) (0, 0) MX4_init [vP (some 48)] (stK 49 17 111) Q := by
  have s0 : stK 49 17 111 = stK 49 17 111 := rfl
  exact B_X4_init (d := d + 57) (n0 := 49) (by decide +kernel) (eZst s0 h)
theorem made_3_49 {X : mX} {d : Nat} {Q : Option mV → mS → Prop} (h : Q none (stK 51 17 109)) : CALL X (d + 57 + 1) (1, 4) MX3_init [vP (some 49)] (stK 50 17 110) Q := by
  have s0 : stK 50 17 110 = stK 50 17 110 := rfl
  have s1 := eNst s0 (50, 4) rfl (by decide +kernel) (by decide +kernel) (by decide)
  have s2 := eRst s1 49 4 50 (by decide +kernel)
  exact B_X3_init (d := d + 57) (n0 := 50) (by decide +kernel) ⟨eKst s1 (by decide +kernel), eZst s2 h⟩
theorem made_4_51 {X : mX} {d : Nat} {Q : Option mV → mS → Prop} (h : Q none (stK 52 17 108)) : CALL X (d + 57 + 1) (0, 0) MX4_init [vP (some 51)] (stK 52 17 108) Q := by
  have s0 : stK 52 17 108 = stK 52 17 108 := rfl
  exact B_X4_init (d := d + 57) (n0 := 52) (by decide +kernel) (eZst s0 h)
theorem made_3_52 {X : mX} {d : Nat} {Q : Option mV → mS → Prop} (h : Q none (stK 54 17 106)) : CALL X (d + 57 + 1) (1, 4) MX3_init [vP (some 52)] (stK 53 17 107) Q := by
  have s0 : stK 53 17 107 = stK 53 17 107 := rfl
  have s1 := eNst s0 (50, 4) rfl (by decide +kernel) (by decide +kernel) (by decide)
  have s2 := eRst s1 52 4 53 (by decide +kernel)
  exact B_X3_init (d := d + 57) (n0 := 53) (by decide +kernel) ⟨eKst s1 (by decide +kernel), eZst s2 h⟩
theorem made_4_54 {X : mX} {d : Nat} {Q : Option mV → mS → Prop} (h : Q none (stK 55 17 105)) : CALL X (d + 57 + 1) (0, 0) MX4_init [vP (some 54)] (stK 55 17 105) Q := by
  have s0 : stK 55 17 105 = stK 55 17 105 := rfl
  exact B_X4_init (d := d + 57) (n0 := 55) (by decide +kernel) (eZst s0 h)
theorem made_9_28 {X : mX} {d : Nat} {Q : Option mV → mS → Prop} (h : Q none (stK 55 17 104)) : CALL X (d + 58 + 1) (26, 168) MX9_init [vP (some 28)] (stK 29 20 130) Q := by
  have s0 : stK 29 20 130 = stK 29 20 130 := rfl
  have s1 := eNst s0 (54, 6) rfl (by decide +kernel) (by decide +kernel) (by decide)
  have s2 := eRst s1 28 0 29 (by decide +kernel)
  have s3 := eNst s2 (55, 6) rfl (by decide +kernel) (by decide +kernel) (by decide)
  have s4 := eRst s3 28 1 30 (by decide +kernel)
  have s5 := eNst s4 (6, 0) rfl (by decide +kernel) (by decide +kernel) (by decide)
  have sq5 : stK 33 19 127 = stK 33 19 127 := rfl
  have s7 := eRst sq5 28 2 31 (by decide +kernel)
  have s8 := eNst s7 (6, 0) rfl (by decide +kernel) (by decide +kernel) (by decide)
  have sq8 : stK 35 18 125 = stK 35 18 125 := rfl
  have s10 := eRst sq8 28 3 33 (by decide +kernel)
  have s11 := eNst s10 (6, 0) rfl (by decide +kernel) (by decide +kernel) (by decide)
  have sq11 : stK 37 17 123 = stK 37 17 123 := rfl
  have s13 := eRst sq11 28 4 35 (by decide +kernel)
  have s14 := eNst s13 (3, 0) rfl (by decide +kernel) (by decide +kernel) (by decide)
  have sq14 : stK 39 17 121 = stK 39 17 121 := rfl
  have s16 := eRst sq14 29 0 37 (by decide +kernel)
  have s17 := eNst s16 (4, 0) rfl (by decide +kernel) (by decide +kernel) (by decide)
  have sq17 : stK 40 17 120 = stK 40 17 120 := rfl
  have s19 := eRst sq17 30 0 39 (by decide +kernel)
  have s20 := eNst s19 (3, 0) rfl (by decide +kernel) (by decide +kernel) (by decide)
  have sq20 : stK 42 17 118 = stK 42 17 118 := rfl
  have s22 := eRst sq20 29 1 40 (by decide +kernel)
  have s23 := eNst s22 (4, 0) rfl (by decide +kernel) (by decide +kernel) (by decide)
  have sq23 : stK 43 17 117 = stK 43 17 117 := rfl
  have s25 := eRst sq23 30 1 42 (by decide +kernel)
  have s26 := eNst s25 (3, 0) rfl (by decide +kernel) (by decide +kernel) (by decide)
  have sq26 : stK 45 17 115 = stK 45 17 115 := rfl
  have s28 := eRst sq26 29 2 43 (by decide +kernel)
  have s29 := eNst s28 (4, 0) rfl (by decide +kernel) (by decide +kernel) (by decide)
  have sq29 : stK 46 17 114 = stK 46 17 114 := rfl
  have s31 := eRst sq29 30 2 45 (by decide +kernel)
  have s32 := eNst s31 (3, 0) rfl (by decide +kernel) (by decide +kernel) (by decide)
  have sq32 : stK 48 17 112 = stK 48 17 112 := rfl
  have s34 := eRst sq32 29 3 46 (by decide +kernel)
  have s35 := eNst s34 (4, 0) rfl (by decide +kernel) (by decide +kernel) (by decide)
  have sq35 : stK 49 17 111 = stK 49 17 111 := rfl
  have s37 := eRst sq35 30 3 48 (by decide +kernel)
  have s38 := eNst s37 (3, 0) rfl (by decide +kernel) (by decide +kernel) (by decide)
  have sq38 : stK 51 17 109 = stK 51 17 109 := rfl
  have s40 := eRst sq38 29 4 49 (by decide +kernel)
  have s41 := eNst s40 (4, 0) rfl (by decide +kernel) (by decide +kernel) (by decide)
  have sq41 : stK 52 17 108 = stK 52 17 108 := rfl
  have s43 := eRst sq41 30 4 51 (by decide +kernel)
  have s44 := eNst s43 (3, 0) rfl (by decide +kernel) (by decide +kernel) (by decide)
  have sq44 : stK 54 17 106 = stK 54 17 106 := rfl
  have s46 := eRst sq44 29 5 52 (by decide +kernel)
  have s47 := eNst s46 (4, 0) rfl (by decide +kernel) (by decide +kernel) (by decide)
  have sq47 : stK 55 17 105 = stK 55 17 105 := rfl
  have s49 := eRst sq47 30 5 54 (by decide +kernel)
  exact B_X9_init (d := d + 58) (n0 := 29) (by decide +kernel) ⟨eKst s1 (by decide +kernel), eKst s3 (by decide +kernel), CALL.st s5 (made_6_31 (d := d) ⟨rfl, by decide +kernel, eKst sq5 (by decide +kernel), CALL.st s8 (made_6_33 (d := d) ⟨rfl, by decide +kernel, eKst sq8 (by decide +kernel), CALL.st s11 (made_6_35 (d := d) ⟨rfl, by decide +kernel, eKst sq11 (by decide +kernel), eKst s13 (by decide +kernel), CALL.st s14 (made_3_37 (d := d) ⟨rfl, by decide +kernel, 29, eFst s13 (by decide +kernel), ⟨6, eKst sq14 (by decide +kernel), by decide, by decide, by decide⟩, eKst sq14 (by decide +kernel), eKst s16 (by decide +kernel), CALL.st s17 (made_4_39 (d := d) ⟨rfl, by decide +kernel, 30, eFst s16 (by decide +kernel), ⟨6, eKst sq17 (by decide +kernel), by decide, by decide, by decide⟩, eKst sq17 (by decide +kernel), eKst s19 (by decide +kernel), CALL.st s20 (made_3_40 (d := d) ⟨rfl, by decide +kernel, 29, eFst s19 (by decide +kernel), ⟨6, eKst sq20 (by decide +kernel), by decide, by decide, by decide⟩, eKst sq20 (by decide +kernel), eKst s22 (by decide +kernel), CALL.st s23 (made_4_42 (d := d) ⟨rfl, by decide +kernel, 30, eFst s22 (by decide +kernel), ⟨6, eKst sq23 (by decide +kernel), by decide, by decide, by decide⟩, eKst sq23 (by decide +kernel), eKst s25 (by decide +kernel), CALL.st s26 (made_3_43 (d := d) ⟨rfl, by decide +kernel, 29, eFst s25 (by decide +kernel), ⟨6, eKst sq26 (by decide +kernel), by decide, by decide, by decide⟩, eKst sq26 (by decide +kernel), eKst s28 (by decide +kernel), CALL.st s29 (made_4_45 (d := d) ⟨rfl, by decide +kernel, 30, eFst s28 (by decide +kernel), ⟨6, eKst sq29 (by decide +kernel), by decide, by decide, by decide⟩, eKst sq29 (by decide +kernel), eKst s31 (by decide +kernel), CALL.st s32 (made_3_46 (d := d) ⟨rfl, by decide +kernel, 29, eFst s31 (by decide +kernel), ⟨6, eKst sq32 (by decide +kernel), by decide, by decide, by decide⟩, eKst sq32 (by decide +kernel), eKst s34 (by decide +kernel), CALL.st s35 (made_4_48 (d := d) ⟨rfl, by decide +kernel, 30, eFst s34 (by decide +kernel), ⟨6, eKst sq35 (by decide +kernel), by decide, by decide, by decide⟩, eKst sq35 (by decide +kernel), eKst s37 (by decide +kernel), CALL.st s38 (made_3_49 (d := d) ⟨rfl, by decide +kernel, 29, eFst s37 (by decide +kernel), ⟨6, eKst sq38 (by decide +kernel), by decide, by decide, by decide⟩, eKst sq38 (by decide +kernel), eKst s40 (by decide +kernel), CALL.st s41 (made_4_51 (d := d) ⟨rfl, by decide +kernel, 30, eFst s40 (by decide +kernel), ⟨6, eKst sq41 (by decide +kernel), by decide, by decide, by decide⟩, eKst sq41 (by decide +kernel), eKst s43 (by decide +kernel), CALL.st s44 (made_3_52 (d := d) ⟨rfl, by decide +kernel, 29, eFst s43 (by decide +kernel), ⟨6, eKst sq44 (by decide +kernel), by decide, by decide, by decide⟩, eKst sq44 (by decide +kernel), eKst s46 (by decide +kernel), CALL.st s47 (made_4_54 (d := d) ⟨rfl, by decide +kernel, 30, eFst s46 (by decide +kernel), ⟨6, eKst sq47 (by decide +kernel), by decide, by decide, by decide⟩, eKst sq47 (by decide +kernel), eZst s49 h⟩)⟩)⟩)⟩)⟩)⟩)⟩)⟩)⟩)⟩)⟩)⟩)⟩)⟩)⟩)⟩
theorem made_6_58 {X : mX} {d : Nat} {Q : Option mV → mS → Prop} (h : Q none (stK 60 15 100)) : CALL X (d + 57 + 1) (1, 15) MX6_init [vP (some 58), vI 5] (stK 59 16 101) Q := by
  have s0 : stK 59 16 101 = stK 59 16 101 := rfl
  have s1 := eIst s0 58 1 (5) (by decide +kernel)
  have s2 := eNst s1 (50, 15) rfl (by decide +kernel) (by decide +kernel) (by decide)
  have s3 := eRst s2 58 0 59 (by decide +kernel)
  exact made_rows (d := d + 57) (x1 := 5) (n0 := 59) (by decide +kernel) ⟨⟨by decide, by decide⟩, eKst s0 (by decide +kernel), eZst s3 h⟩
theorem made_6_60 {X : mX} {d : Nat} {Q : Option mV → mS → Prop} (h : Q none (stK 62 14 98)) : CALL X (d + 57 + 1) (1, 30) MX6_init [vP (some 60), vI 10] (stK 61 15 99) Q := by
  have s0 : stK 61 15 99 = stK 61 15 99 := rfl
  have s1 := eIst s0 60 1 (10) (by decide +kernel)
  have s2 := eNst s1 (50, 30) rfl (by decide +kernel) (by decide +kernel) (by decide)
  have s3 := eRst s2 60 0 61 (by decide +kernel)
  exact made_rows (d := d + 57) (x1 := 10) (n0 := 61) (by decide +kernel) ⟨⟨by decide, by decide⟩, eKst s0 (by decide +kernel), eZst s3 h⟩
theorem made_6_62 {X : mX} {d : Nat} {Q : Option mV → mS → Prop} (h : Q none (stK 64 13 96)) : CALL X (d + 57 + 1) (1, 24) MX6_init [vP (some 62), vI 8] (stK 63 14 97) Q := by
  have s0 : stK 63 14 97 = stK 63 14 97 := rfl
  have s1 := eIst s0 62 1 (8) (by decide +kernel)
  have s2 := eNst s1 (50, 24) rfl (by decide +kernel) (by decide +kernel) (by decide)
  have s3 := eRst s2 62 0 63 (by decide +kernel)
  exact made_rows (d := d + 57) (x1 := 8) (n0 := 63) (by decide +kernel) ⟨⟨by decide, by decide⟩, eKst s0 (by decide +kernel), eZst s3 h⟩
theorem made_3_64 {X : mX} {d : Nat} {Q : Option mV → mS → Prop} (h : Q none (stK 66 13 94)) : CALL X (d + 57 + 1) (1, 4) MX3_init [vP (some 64)] (stK 65 13 95) Q := by
  have s0 : stK 65 13 95 = stK 65 13 95 := rfl
  have s1 := eNst s0 (50, 4) rfl (by decide +kernel) (by decide +kernel) (by decide)
  have s2 := eRst s1 64 4 65 (by decide +kernel)
  exact B_X3_init (d := d + 57) (n0 := 65) (by decide +kernel) ⟨eKst s1 (by decide +kernel), eZst s2 h⟩
theorem made_4_66 {X : mX} {d : Nat} {Q : Option mV → mS → Prop} (h : Q none (stK 67 13 93)) : CALL X (d + 57 + 1) (0, 0) MX4_init [vP (some 66)] (stK 67 13 93) Q := by
  have s0 : stK 67 13 93 = stK 67 13 93 := rfl
  exact B_X4_init (d := d + 57) (n0 := 67) (by decide +kernel) (eZst s0 h)
theorem made_3_67 {X : mX} {d : Nat} {Q : Option mV → mS → Prop} (h : Q none (stK 69 13 91)) : CALL X (d + 57 + 1) (1, 4) MX3_init [vP (some 67)] (stK 68 13 92) Q := by
  have s0 : stK 68 13 92 = stK 68 13 92 := rfl
  have s1 := eNst s0 (50, 4) rfl (by decide +kernel) (by decide +kernel) (by decide)
  have s2 := eRst s1 67 4 68 (by decide +kernel)
  exact B_X3_init (d := d + 57) (n0 := 68) (by decide +kernel) ⟨eKst s1 (by decide +kernel), eZst s2 h⟩
theorem made_4_69 {X : mX} {d : Nat} {Q : Option mV → mS → Prop} (h : Q none (stK 70 13 90)) : CALL X (d + 57 + 1) (0, 0) MX4_init [vP (some 69)] (stK 70 13 90) Q := by
  have s0 : stK 70 13 90 = stK 70 13 90 := rfl
  exact B_X4_init (d := d + 57) (n0 := 70) (by decide +kernel) (eZst s0 h)
theorem made_3_70 {X : mX} {d : Nat} {Q : Option mV → mS → Prop} (h : Q none (stK 72 13 88)) : CALL X (d + 57 + 1) (1, 4) MX3_init [vP (some 70)] (stK 71 13 89) Q := by
  have s0 : stK 71 13 89 = stK 71 13 89 := rfl
  have s1 := eNst s0 (50, 4) rfl (by decide +kernel) (by decide +kernel) (by decide)
  have s2 := eRst s1 70 4 71 (by decide +kernel)
  exact B_X3_init (d := d + 57) (n0 := 71) (by decide +kernel) ⟨eKst s1 (by decide +kernel), eZst s2 h⟩
theorem made_4_72 {X : mX} {d : Nat} {Q : Option mV → mS → Prop} (h : Q none (stK 73 13 87)) : CALL X (d + 57 + 1) (0, 0) MX4_init [vP (some 72)] (stK 73 13 87) Q := by
  have s0 : stK 73 13 87 = stK 73 13 87 := rfl
  exact B_X4_init (d := d + 57) (n0 := 73) (by decide +kernel) (eZst s0 h)
theorem made_3_73 {X : mX} {d : Nat} {Q : Option mV → mS → Prop} (h : Q none (stK 75 13 85)) : CALL X (d + 57 + 1) (1, 4) MX3_init [vP (some 73)] (stK 74 13 86) Q := by
  have s0 : stK 74 13 86 = stK 74 13 86 := rfl
  have s1 := eNst s0 (50, 4) rfl (by decide +kernel) (by decide +kernel) (by decide)
  have s2 := eRst s1 73 4 74 (by decide +kernel)
  exact B_X3_init (d := d + 57) (n0 := 74) (by decide +kernel) ⟨eKst s1 (by decide +kernel), eZst s2 h⟩
theorem made_4_75 {X : mX} {d : Nat} {Q : Option mV → mS → Prop} (h : Q none (stK 76 13 84)) : CALL X (d + 57 + 1) (0, 0) MX4_init [vP (some 75)] (stK 76 13 84) Q := by
  have s0 : stK 76 13 84 = stK 76 13 84 := rfl
  exact B_X4_init (d := d + 57) (n0 := 76) (by decide +kernel) (eZst s0 h)
theorem made_3_76 {X : mX} {d : Nat} {Q : Option mV → mS → Prop} (h : Q none (stK 78 13 82)) : CALL X (d + 57 + 1) (1, 4) MX3_init [vP (some 76)] (stK 77 13 83) Q := by
  have s0 : stK 77 13 83 = stK 77 13 83 := rfl
  have s1 := eNst s0 (50, 4) rfl (by decide +kernel) (by decide +kernel) (by decide)
  have s2 := eRst s1 76 4 77 (by decide +kernel)
  exact B_X3_init (d := d + 57) (n0 := 77) (by decide +kernel) ⟨eKst s1 (by decide +kernel), eZst s2 h⟩
theorem made_4_78 {X : mX} {d : Nat} {Q : Option mV → mS → Prop} (h : Q none (stK 79 13 81)) : CALL X (d + 57 + 1) (0, 0) MX4_init [vP (some 78)] (stK 79 13 81) Q := by
  have s0 : stK 79 13 81 = stK 79 13 81 := rfl
  exact B_X4_init (d := d + 57) (n0 := 79) (by decide +kernel) (eZst s0 h)
theorem made_3_79 {X : mX} {d : Nat} {Q : Option mV → mS → Prop} (h : Q none (stK 81 13 79)) : CALL X (d + 57 + 1) (1, 4) MX3_init [vP (some 79)] (stK 80 13 80) Q := by
  have s0 : stK 80 13 80 = stK 80 13 80 := rfl
  have s1 := eNst s0 (50, 4) rfl (by decide +kernel) (by decide +kernel) (by decide)
  have s2 := eRst s1 79 4 80 (by decide +kernel)
  exact B_X3_init (d := d + 57) (n0 := 80) (by decide +kernel) ⟨eKst s1 (by decide +kernel), eZst s2 h⟩
theorem made_4_81 {X : mX} {d : Nat} {Q : Option mV → mS → Prop} (h : Q none (stK 82 13 78)) : CALL X (d + 57 + 1) (0, 0) MX4_init [vP (some 81)] (stK 82 13 78) Q := by
  have s0 : stK 82 13 78 = stK 82 13 78 := rfl
  exact B_X4_init (d := d + 57) (n0 := 82) (by decide +kernel) (eZst s0 h)
theorem made_9_55 {X : mX} {d : Nat} {Q : Option mV → mS → Prop} (h : Q none (stK 82 13 77)) : CALL X (d + 58 + 1) (26, 168) MX9_init [vP (some 55)] (stK 56 16 103) Q := by
  have s0 : stK 56 16 103 = stK 56 16 103 := rfl
  have s1 := eNst s0 (54, 6) rfl (by decide +kernel) (by decide +kernel) (by decide)
  have s2 := eRst s1 55 0 56 (by decide +kernel)
  have s3 := eNst s2 (55, 6) rfl (by decide +kernel) (by decide +kernel) (by decide)
  have s4 := eRst s3 55 1 57 (by decide +kernel)
  have s5 := eNst s4 (6, 0) rfl (by decide +kernel) (by decide +kernel) (by decide)
  have sq5 : stK 60 15 100 = stK 60 15 100 := rfl
  have s7 := eRst sq5 55 2 58 (by decide +kernel)
  have s8 := eNst s7 (6, 0) rfl (by decide +kernel) (by decide +kernel) (by decide)
  have sq8 : stK 62 14 98 = stK 62 14 98 := rfl
  have s10 := eRst sq8 55 3 60 (by decide +kernel)
  have s11 := eNst s10 (6, 0) rfl (by decide +kernel) (by decide +kernel) (by decide)
  have sq11 : stK 64 13 96 = stK 64 13 96 := rfl
  have s13 := eRst sq11 55 4 62 (by decide +kernel)
  have s14 := eNst s13 (3, 0) rfl (by decide +kernel) (by decide +kernel) (by decide)
  have sq14 : stK 66 13 94 = stK 66 13 94 := rfl
  have s16 := eRst sq14 56 0 64 (by decide +kernel)
  have s17 := eNst s16 (4, 0) rfl (by decide +kernel) (by decide +kernel) (by decide)
  have sq17 : stK 67 13 93 = stK 67 13 93 := rfl
  have s19 := eRst sq17 57 0 66 (by decide +kernel)
  have s20 := eNst s19 (3, 0) rfl (by decide +kernel) (by decide +kernel) (by decide)
  have sq20 : stK 69 13 91 = stK 69 13 91 := rfl
  have s22 := eRst sq20 56 1 67 (by decide +kernel)
  have s23 := eNst s22 (4, 0) rfl (by decide +kernel) (by decide +kernel) (by decide)
  have sq23 : stK 70 13 90 = stK 70 13 90 := rfl
  have s25 := eRst sq23 57 1 69 (by decide +kernel)
  have s26 := eNst s25 (3, 0) rfl (by decide +kernel) (by decide +kernel) (by decide)
  have sq26 : stK 72 13 88 = stK 72 13 88 := rfl
  have s28 := eRst sq26 56 2 70 (by decide +kernel)
  have s29 := eNst s28 (4, 0) rfl (by decide +kernel) (by decide +kernel) (by decide)
  have sq29 : stK 73 13 87 = stK 73 13 87 := rfl
  have s31 := eRst sq29 57 2 72 (by decide +kernel)
  have s32 := eNst s31 (3, 0) rfl (by decide +kernel) (by decide +kernel) (by decide)
  have sq32 : stK 75 13 85 = stK 75 13 85 := rfl
  have s34 := eRst sq32 56 3 73 (by decide +kernel)
  have s35 := eNst s34 (4, 0) rfl (by decide +kernel) (by decide +kernel) (by decide)
  have sq35 : stK 76 13 84 = stK 76 13 84 := rfl
  have s37 := eRst sq35 57 3 75 (by decide +kernel)
  have s38 := eNst s37 (3, 0) rfl (by decide +kernel) (by decide +kernel) (by decide)
  have sq38 : stK 78 13 82 = stK 78 13 82 := rfl
  have s40 := eRst sq38 56 4 76 (by decide +kernel)
  have s41 := eNst s40 (4, 0) rfl (by decide +kernel) (by decide +kernel) (by decide)
  have sq41 : stK 79 13 81 = stK 79 13 81 := rfl
  have s43 := eRst sq41 57 4 78 (by decide +kernel)
  have s44 := eNst s43 (3, 0) rfl (by decide +kernel) (by decide +kernel) (by decide)
  have sq44 : stK 81 13 79 = stK 81 13 79 := rfl
  have s46 := eRst sq44 56 5 79 (by decide +kernel)
  have s47 := eNst s46 (4, 0) rfl (by decide +kernel) (by decide +kernel) (by decide)
  have sq47 : stK 82 13 78 = stK 82 13 78 := rfl
  have s49 := eRst sq47 57 5 81 (by decide +kernel)
  exact B_X9_init (d := d + 58) (n0 := 56) (by decide +kernel) ⟨eKst s1 (by decide +kernel), eKst s3 (by decide +kernel), CALL.st s5 (made_6_58 (d := d) ⟨rfl, by decide +kernel, eKst sq5 (by decide +kernel), CALL.st s8 (made_6_60 (d := d) ⟨rfl, by decide +kernel, eKst sq8 (by decide +kernel), CALL.st s11 (made_6_62 (d := d) ⟨rfl, by decide +kernel, eKst sq11 (by decide +kernel), eKst s13 (by decide +kernel), CALL.st s14 (made_3_64 (d := d) ⟨rfl, by decide +kernel, 56, eFst s13 (by decide +kernel), ⟨6, eKst sq14 (by decide +kernel), by decide, by decide, by decide⟩, eKst sq14 (by decide +kernel), eKst s16 (by decide +kernel), CALL.st s17 (made_4_66 (d := d) ⟨rfl, by decide +kernel, 57, eFst s16 (by decide +kernel), ⟨6, eKst sq17 (by decide +kernel), by decide, by decide, by decide⟩, eKst sq17 (by decide +kernel), eKst s19 (by decide +kernel), CALL.st s20 (made_3_67 (d := d) ⟨rfl, by decide +kernel, 56, eFst s19 (by decide +kernel), ⟨6, eKst sq20 (by decide +kernel), by decide, by decide, by decide⟩, eKst sq20 (by decide +kernel), eKst s22 (by decide +kernel), CALL.st s23 (made_4_69 (d := d) ⟨rfl, by decide +kernel, 57, eFst s22 (by decide +kernel), ⟨6, eKst sq23 (by decide +kernel), by decide, by decide, by decide⟩, eKst sq23 (by decide +kernel), eKst s25 (by decide +kernel), CALL.st s26 (made_3_70 (d := d) ⟨rfl, by decide +kernel, 56, eFst s25 (by decide +kernel), ⟨6, eKst sq26 (by decide +kernel), by decide, by decide, by decide⟩, eKst sq26 (by decide +kernel), eKst s28 (by decide +kernel), CALL.st s29 (made_4_72 (d := d) ⟨rfl, by decide +kernel, 57, eFst s28 (by decide +kernel), ⟨6, eKst sq29 (by decide +kernel), by decide, by decide, by decide⟩, eKst sq29 (by decide +kernel), eKst s31 (by decide +kernel), CALL.st s32 (made_3_73 (d := d) ⟨rfl, by decide +kernel, 56, eFst s31 (by decide +kernel), ⟨6, eKst sq32 (by decide +kernel), by decide, by decide, by decide⟩, eKst sq32 (by decide +kernel), eKst s34 (by decide +kernel), CALL.st s35 (made_4_75 (d := d) ⟨rfl, by decide +kernel, 57, eFst s34 (by decide +kernel), ⟨6, eKst sq35 (by decide +kernel), by decide, by decide, by decide⟩, eKst sq35 (by decide +kernel), eKst s37 (by decide +kernel), CALL.st s38 (made_3_76 (d := d) ⟨rfl, by decide +kernel, 56, eFst s37 (by decide +kernel), ⟨6, eKst sq38 (by decide +kernel), by decide, by decide, by decide⟩, eKst sq38 (by decide +kernel), eKst s40 (by decide +kernel), CALL.st s41 (made_4_78 (d := d) ⟨rfl, by decide +kernel, 57, eFst s40 (by decide +kernel), ⟨6, eKst sq41 (by decide +kernel), by decide, by decide, by decide⟩, eKst sq41 (by decide +kernel), eKst s43 (by decide +kernel), CALL.st s44 (made_3_79 (d := d) ⟨rfl, by decide +kernel, 56, eFst s43 (by decide +kernel), ⟨6, eKst sq44 (by decide +kernel), by decide, by decide, by decide⟩, eKst sq44 (by decide +kernel), eKst s46 (by decide +kernel), CALL.st s47 (made_4_81 (d := d) ⟨rfl, by decide +kernel, 57, eFst s46 (by decide +kernel), ⟨6, eKst sq47 (by decide +kernel), by decide, by decide, by decide⟩, eKst sq47 (by decide +kernel), eZst s49 h⟩)⟩)⟩)⟩)⟩)⟩)⟩)⟩)⟩)⟩)⟩)⟩)⟩)⟩)⟩)⟩
theorem made_1_85 {X : mX} {d : Nat} {Q : Option mV → mS → Prop} (h : Q none (stK 88 13 73)) : CALL X (d + 56 + 1) (2, 106) MX1_init [vP (some 85)] (stK 86 13 75) Q := by
  have s0 : stK 86 13 75 = stK 86 13 75 := rfl
  have s1 := eNst s0 (50, 100) rfl (by decide +kernel) (by decide +kernel) (by decide)
  have s2 := eRst s1 85 0 86 (by decide +kernel)
  have s3 := eNst s2 (50, 6) rfl (by decide +kernel) (by decide +kernel) (by decide)
  have s4 := eRst s3 85 1 87 (by decide +kernel)
  exact B_X1_init (d := d + 56) (n0 := 86) (by decide +kernel) ⟨eKst s1 (by decide +kernel), eKst s3 (by decide +kernel), eZst s4 h⟩
theorem made_1_88 {X : mX} {d : Nat} {Q : Option mV → mS → Prop} (h : Q none (stK 91 13 70)) : CALL X (d + 56 + 1) (2, 106) MX1_init [vP (some 88)] (stK 89 13 72) Q := by
  have s0 : stK 89 13 72 = stK 89 13 72 := rfl
  have s1 := eNst s0 (50, 100) rfl (by decide +kernel) (by decide +kernel) (by decide)
  have s2 := eRst s1 88 0 89 (by decide +kernel)
  have s3 := eNst s2 (50, 6) rfl (by decide +kernel) (by decide +kernel) (by decide)
  have s4 := eRst s3 88 1 90 (by decide +kernel)
  exact B_X1_init (d := d + 56) (n0 := 89) (by decide +kernel) ⟨eKst s1 (by decide +kernel), eKst s3 (by decide +kernel), eZst s4 h⟩
theorem made_1_91 {X : mX} {d : Nat} {Q : Option mV → mS → Prop} (h : Q none (stK 94 13 67)) : CALL X (d + 56 + 1) (2, 106) MX1_init [vP (some 91)] (stK 92 13 69) Q := by
  have s0 : stK 92 13 69 = stK 92 13 69 := rfl
  have s1 := eNst s0 (50, 100) rfl (by decide +kernel) (by decide +kernel) (by decide)
  have s2 := eRst s1 91 0 92 (by decide +kernel)
  have s3 := eNst s2 (50, 6) rfl (by decide +kernel) (by decide +kernel) (by decide)
  have s4 := eRst s3 91 1 93 (by decide +kernel)
  exact B_X1_init (d := d + 56) (n0 := 92) (by decide +kernel) ⟨eKst s1 (by decide +kernel), eKst s3 (by decide +kernel), eZst s4 h⟩
theorem made_1_94 {X : mX} {d : Nat} {Q : Option mV → mS → Prop} (h : Q none (stK 97 13 64)) : CALL X (d + 56 + 1) (2, 106) MX1_init [vP (some 94)] (stK 95 13 66) Q := by
  have s0 : stK 95 13 66 = stK 95 13 66 := rfl
  have s1 := eNst s0 (50, 100) rfl (by decide +kernel) (by decide +kernel) (by decide)
  have s2 := eRst s1 94 0 95 (by decide +kernel)
  have s3 := eNst s2 (50, 6) rfl (by decide +kernel) (by decide +kernel) (by decide)
  have s4 := eRst s3 94 1 96 (by decide +kernel)
  exact B_X1_init (d := d + 56) (n0 := 95) (by decide +kernel) ⟨eKst s1 (by decide +kernel), eKst s3 (by decide +kernel), eZst s4 h⟩
theorem made_1_97 {X : mX} {d : Nat} {Q : Option mV → mS → Prop} (h : Q none (stK 100 13 61)) : CALL X (d + 56 + 1) (2, 106) MX1_init [vP (some 97)] (stK 98 13 63) Q := by
  have s0 : stK 98 13 63 = stK 98 13 63 := rfl
  have s1 := eNst s0 (50, 100) rfl (by decide +kernel) (by decide +kernel) (by decide)
  have s2 := eRst s1 97 0 98 (by decide +kernel)
  have s3 := eNst s2 (50, 6) rfl (by decide +kernel) (by decide +kernel) (by decide)
  have s4 := eRst s3 97 1 99 (by decide +kernel)
  exact B_X1_init (d := d + 56) (n0 := 98) (by decide +kernel) ⟨eKst s1 (by decide +kernel), eKst s3 (by decide +kernel), eZst s4 h⟩
theorem made_1_100 {X : mX} {d : Nat} {Q : Option mV → mS → Prop} (h : Q none (stK 103 13 58)) : CALL X (d + 56 + 1) (2, 106) MX1_init [vP (some 100)] (stK 101 13 60) Q := by
  have s0 : stK 101 13 60 = stK 101 13 60 := rfl
  have s1 := eNst s0 (50, 100) rfl (by decide +kernel) (by decide +kernel) (by decide)
  have s2 := eRst s1 100 0 101 (by decide +kernel)
  have s3 := eNst s2 (50, 6) rfl (by decide +kernel) (by decide +kernel) (by decide)
  have s4 := eRst s3 100 1 102 (by decide +kernel)
  exact B_X1_init (d := d + 56) (n0 := 101) (by decide +kernel) ⟨eKst s1 (by decide +kernel), eKst s3 (by decide +kernel), eZst s4 h⟩
theorem made_7_83 {X : mX} {d : Nat} {Q : Option mV → mS → Prop} (h : Q none (stK 103 13 57)) : CALL X (d + 57 + 1) (19, 666) MX7_init [vP (some 83)] (stK 84 13 76) Q := by
  have s0 : stK 84 13 76 = stK 84 13 76 := rfl
  have s1 := eNst s0 (56, 6) rfl (by decide +kernel) (by decide +kernel) (by decide)
  have s2 := eRst s1 83 0 84 (by decide +kernel)
  have s3 := eNst s2 (1, 0) rfl (by decide +kernel) (by decide +kernel) (by decide)
  have sq3 : stK 88 13 73 = stK 88 13 73 := rfl
  have s5 := eRst sq3 84 0 85 (by decide +kernel)
  have s6 := eNst s5 (1, 0) rfl (by decide +kernel) (by decide +kernel) (by decide)
  have sq6 : stK 91 13 70 = stK 91 13 70 := rfl
  have s8 := eRst sq6 84 1 88 (by decide +kernel)
  have s9 := eNst s8 (1, 0) rfl (by decide +kernel) (by decide +kernel) (by decide)
  have sq9 : stK 94 13 67 = stK 94 13 67 := rfl
  have s11 := eRst sq9 84 2 91 (by decide +kernel)
  have s12 := eNst s11 (1, 0) rfl (by decide +kernel) (by decide +kernel) (by decide)
  have sq12 : stK 97 13 64 = stK 97 13 64 := rfl
  have s14 := eRst sq12 84 3 94 (by decide +kernel)
  have s15 := eNst s14 (1, 0) rfl (by decide +kernel) (by decide +kernel) (by decide)
  have sq15 : stK 100 13 61 = stK 100 13 61 := rfl
  have s17 := eRst sq15 84 4 97 (by decide +kernel)
  have s18 := eNst s17 (1, 0) rfl (by decide +kernel) (by decide +kernel) (by decide)
  have sq18 : stK 103 13 58 = stK 103 13 58 := rfl
  have s20 := eRst sq18 84 5 100 (by decide +kernel)
  exact B_X7_init (d := d + 57) (n0 := 84) (by decide +kernel) ⟨eKst s1 (by decide +kernel), eKst s2 (by decide +kernel), CALL.st s3 (made_1_85 (d := d) ⟨rfl, by decide +kernel, 84, eFst s2 (by decide +kernel), ⟨6, eKst sq3 (by decide +kernel), by decide, by decide, by decide⟩, eKst sq3 (by decide +kernel), eKst s5 (by decide +kernel), CALL.st s6 (made_1_88 (d := d) ⟨rfl, by decide +kernel, 84, eFst s5 (by decide +kernel), ⟨6, eKst sq6 (by decide +kernel), by decide, by decide, by decide⟩, eKst sq6 (by decide +kernel), eKst s8 (by decide +kernel), CALL.st s9 (made_1_91 (d := d) ⟨rfl, by decide +kernel, 84, eFst s8 (by decide +kernel), ⟨6, eKst sq9 (by decide +kernel), by decide, by decide, by decide⟩, eKst sq9 (by decide +kernel), eKst s11 (by decide +kernel), CALL.st s12 (made_1_94 (d := d) ⟨rfl, by decide +kernel, 84, eFst s11 (by decide +kernel), ⟨6, eKst sq12 (by decide +kernel), by decide, by decide, by decide⟩, eKst sq12 (by decide +kernel), eKst s14 (by decide +kernel), CALL.st s15 (made_1_97 (d := d) ⟨rfl, by decide +kernel, 84, eFst s14 (by decide +kernel), ⟨6, eKst sq15 (by decide +kernel), by decide, by decide, by decide⟩, eKst sq15 (by decide +kernel), eKst s17 (by decide +kernel), CALL.st s18 (made_1_100 (d := d) ⟨rfl, by decide +kernel, 84, eFst s17 (by decide +kernel), ⟨6, eKst sq18 (by decide +kernel), by decide, by decide, by decide⟩, eKst sq18 (by decide +kernel), eZst s20 h⟩)⟩)⟩)⟩)⟩)⟩)⟩
theorem made_2_82 {X : mX} {d : Nat} {Q : Option mV → mS → Prop} (h : Q none (stK 108 13 51)) : CALL X (d + 58 + 1) (25, 1145) MX2_init [vP (some 82)] (stK 83 13 76) Q := by
  have s0 : stK 83 13 76 = stK 83 13 76 := rfl
  have s1 := eNst s0 (7, 0) rfl (by decide +kernel) (by decide +kernel) (by decide)
  have sq1 : stK 103 13 57 = stK 103 13 57 := rfl
  have s3 := eRst sq1 82 0 83 (by decide +kernel)
  have s4 := eNst s3 (50, 6) rfl (by decide +kernel) (by decide +kernel) (by decide)
  have s5 := eRst s4 82 1 103 (by decide +kernel)
  have s6 := eNst s5 (50, 448) rfl (by decide +kernel) (by decide +kernel) (by decide)
  have s7 := eRst s6 82 2 104 (by decide +kernel)
  have s8 := eNst s7 (50, 13) rfl (by decide +kernel) (by decide +kernel) (by decide)
  have s9 := eRst s8 82 3 105 (by decide +kernel)
  have s10 := eNst s9 (50, 5) rfl (by decide +kernel) (by decide +kernel) (by decide)
  have s11 := eRst s10 82 4 106 (by decide +kernel)
  have s12 := eNst s11 (50, 5) rfl (by decide +kernel) (by decide +kernel) (by decide)
  have s13 := eRst s12 82 5 107 (by decide +kernel)
  exact B_X2_init (d := d + 58) (n0 := 83) (by decide +kernel) (CALL.st s1 (made_7_83 (d := d) ⟨rfl, by decide +kernel, eKst sq1 (by decide +kernel), eKst s4 (by decide +kernel), eKst s6 (by decide +kernel), eKst s8 (by decide +kernel), eKst s10 (by decide +kernel), eKst s12 (by decide +kernel), eZst s13 h⟩))
theorem made_5_108 {X : mX} {d : Nat} {Q : Option mV → mS → Prop} (h : Q none (stK 110 13 48)) : CALL X (d + 58 + 1) (1, 100) MX5_init [vP (some 108)] (stK 109 13 49) Q := by
  have s0 : stK 109 13 49 = stK 109 13 49 := rfl
  have s1 := eNst s0 (51, 100) rfl (by decide +kernel) (by decide +kernel) (by decide)
  have s2 := eRst s1 108 0 109 (by decide +kernel)
  exact B_X5_init (d := d + 58) (n0 := 109) (by decide +kernel) ⟨eKst s1 (by decide +kernel), eZst s2 h⟩
theorem made_0_110 {X : mX} {d : Nat} {Q : Option mV → mS → Prop} (h : Q none (stK 112 13 46)) : CALL X (d + 58 + 1) (1, 20) MX0_init [vP (some 110)] (stK 111 13 47) Q := by
  have s0 : stK 111 13 47 = stK 111 13 47 := rfl
  have s1 := eNst s0 (50, 20) rfl (by decide +kernel) (by decide +kernel) (by decide)
  have s2 := eRst s1 110 0 111 (by decide +kernel)
  exact B_X0_init (d := d + 58) (n0 := 111) (by decide +kernel) ⟨eKst s1 (by decide +kernel), eZst s2 h⟩
theorem made_8_113 {X : mX} {d : Nat} {Q : Option mV → mS → Prop} (h : Q none (stK 115 12 43)) : CALL X (d + 58 + 1) (1, 60) MX8_init [vP (some 113)] (stK 114 13 44) Q := by
  have s0 : stK 114 13 44 = stK 114 13 44 := rfl
  have s1 := eNst s0 (53, 60) rfl (by decide +kernel) (by decide +kernel) (by decide)
  have s2 := eRst s1 113 0 114 (by decide +kernel)
  have s3 := eIst s2 113 1 (-1) (by decide +kernel)
  exact B_X8_init (d := d + 58) (n0 := 114) (by decide +kernel) ⟨eKst s1 (by decide +kernel), eKst s2 (by decide +kernel), eZst s3 h⟩
theorem made_8_115 {X : mX} {d : Nat} {Q : Option mV → mS → Prop} (h : Q none (stK 117 11 41)) : CALL X (d + 58 + 1) (1, 60) MX8_init [vP (some 115)] (stK 116 12 42) Q := by
  have s0 : stK 116 12 42 = stK 116 12 42 := rfl
  have s1 := eNst s0 (53, 60) rfl (by decide +kernel) (by decide +kernel) (by decide)
  have s2 := eRst s1 115 0 116 (by decide +kernel)
  have s3 := eIst s2 115 1 (-1) (by decide +kernel)
  exact B_X8_init (d := d + 58) (n0 := 116) (by decide +kernel) ⟨eKst s1 (by decide +kernel), eKst s2 (by decide +kernel), eZst s3 h⟩
theorem made_8_117 {X : mX} {d : Nat} {Q : Option mV → mS → Prop} (h : Q none (stK 119 10 39)) : CALL X (d + 58 + 1) (1, 60) MX8_init [vP (some 117)] (stK 118 11 40) Q := by
  have s0 : stK 118 11 40 = stK 118 11 40 := rfl
  have s1 := eNst s0 (53, 60) rfl (by decide +kernel) (by decide +kernel) (by decide)
  have s2 := eRst s1 117 0 118 (by decide +kernel)
  have s3 := eIst s2 117 1 (-1) (by decide +kernel)
  exact B_X8_init (d := d + 58) (n0 := 118) (by decide +kernel) ⟨eKst s1 (by decide +kernel), eKst s2 (by decide +kernel), eZst s3 h⟩
theorem made_8_119 {X : mX} {d : Nat} {Q : Option mV → mS → Prop} (h : Q none (stK 121 9 37)) : CALL X (d + 58 + 1) (1, 60) MX8_init [vP (some 119)] (stK 120 10 38) Q := by
  have s0 : stK 120 10 38 = stK 120 10 38 := rfl
  have s1 := eNst s0 (53, 60) rfl (by decide +kernel) (by decide +kernel) (by decide)
  have s2 := eRst s1 119 0 120 (by decide +kernel)
  have s3 := eIst s2 119 1 (-1) (by decide +kernel)
  exact B_X8_init (d := d + 58) (n0 := 120) (by decide +kernel) ⟨eKst s1 (by decide +kernel), eKst s2 (by decide +kernel), eZst s3 h⟩
theorem made_8_121 {X : mX} {d : Nat} {Q : Option mV → mS → Prop} (h : Q none (stK 123 8 35)) : CALL X (d + 58 + 1) (1, 60) MX8_init [vP (some 121)] (stK 122 9 36) Q := by
  have s0 : stK 122 9 36 = stK 122 9 36 := rfl
  have s1 := eNst s0 (53, 60) rfl (by decide +kernel) (by decide +kernel) (by decide)
  have s2 := eRst s1 121 0 122 (by decide +kernel)
  have s3 := eIst s2 121 1 (-1) (by decide +kernel)
  exact B_X8_init (d := d + 58) (n0 := 122) (by decide +kernel) ⟨eKst s1 (by decide +kernel), eKst s2 (by decide +kernel), eZst s3 h⟩
theorem made_8_123 {X : mX} {d : Nat} {Q : Option mV → mS → Prop} (h : Q none (stK 125 7 33)) : CALL X (d + 58 + 1) (1, 60) MX8_init [vP (some 123)] (stK 124 8 34) Q := by
  have s0 : stK 124 8 34 = stK 124 8 34 := rfl
  have s1 := eNst s0 (53, 60) rfl (by decide +kernel) (by decide +kernel) (by decide)
  have s2 := eRst s1 123 0 124 (by decide +kernel)
  have s3 := eIst s2 123 1 (-1) (by decide +kernel)
  exact B_X8_init (d := d + 58) (n0 := 124) (by decide +kernel) ⟨eKst s1 (by decide +kernel), eKst s2 (by decide +kernel), eZst s3 h⟩
theorem made_10_0 {X : mX} {d : Nat} {Q : Option mV → mS → Prop} (h : Q none (stK 125 7 32)) : CALL X (d + 59 + 1) (124, 2198) MX10_init [vP (some 0)] (stK 1 25 157) Q := by
  have s0 : stK 1 25 157 = stK 1 25 157 := rfl
  have s1 := eNst9 s0 rfl (by decide +kernel) (by decide +kernel) (by decide +kernel)
  have sq1 : stK 28 21 131 = stK 28 21 131 := rfl
  have s3 := eRst sq1 0 0 1 (by decide +kernel)
  have s4 := eNst9 s3 rfl (by decide +kernel) (by decide +kernel) (by decide +kernel)
  have sq4 : stK 55 17 104 = stK 55 17 104 := rfl
  have s6 := eRst sq4 0 1 28 (by decide +kernel)
  have s7 := eNst9 s6 rfl (by decide +kernel) (by decide +kernel) (by decide +kernel)
  have sq7 : stK 82 13 77 = stK 82 13 77 := rfl
  have s9 := eRst sq7 0 2 55 (by decide +kernel)
  have s10 := eNst s9 (2, 0) rfl (by decide +kernel) (by decide +kernel) (by decide)
  have sq10 : stK 108 13 51 = stK 108 13 51 := rfl
  have s12 := eRst sq10 0 3 82 (by decide +kernel)
  have s13 := eRst2 s12 0 4 (eFst (a := 82) (k := 0) (b := 83) s12 (by decide +kernel)) (by decide +kernel)
  have s14 := eNst s13 (5, 0) rfl (by decide +kernel) (by decide +kernel) (by decide)
  have sq14 : stK 110 13 48 = stK 110 13 48 := rfl
  have s16 := eRst sq14 0 5 108 (by decide +kernel)
  have s17 := eNst s16 (0, 0) rfl (by decide +kernel) (by decide +kernel) (by decide)
  have sq17 : stK 112 13 46 = stK 112 13 46 := rfl
  have s19 := eRst sq17 0 6 110 (by decide +kernel)
  have s20 := eNst s19 (57, 6) rfl (by decide +kernel) (by decide +kernel) (by decide)
  have s21 := eRst s20 0 7 112 (by decide +kernel)
  have s22 := eNst s21 (8, 0) rfl (by decide +kernel) (by decide +kernel) (by decide)
  have sq22 : stK 115 12 43 = stK 115 12 43 := rfl
  have s24 := eRst sq22 112 0 113 (by decide +kernel)
  have s25 := eNst s24 (8, 0) rfl (by decide +kernel) (by decide +kernel) (by decide)
  have sq25 : stK 117 11 41 = stK 117 11 41 := rfl
  have s27 := eRst sq25 112 1 115 (by decide +kernel)
  have s28 := eNst s27 (8, 0) rfl (by decide +kernel) (by decide +kernel) (by decide)
  have sq28 : stK 119 10 39 = stK 119 10 39 := rfl
  have s30 := eRst sq28 112 2 117 (by decide +kernel)
  have s31 := eNst s30 (8, 0) rfl (by decide +kernel) (by decide +kernel) (by decide)
  have sq31 : stK 121 9 37 = stK 121 9 37 := rfl
  have s33 := eRst sq31 112 3 119 (by decide +kernel)
  have s34 := eNst s33 (8, 0) rfl (by decide +kernel) (by decide +kernel) (by decide)
  have sq34 : stK 123 8 35 = stK 123 8 35 := rfl
  have s36 := eRst sq34 112 4 121 (by decide +kernel)
  have s37 := eNst s36 (8, 0) rfl (by decide +kernel) (by decide +kernel) (by decide)
  have sq37 : stK 125 7 33 = stK 125 7 33 := rfl
  have s39 := eRst sq37 112 5 123 (by decide +kernel)
  exact B_X10_init (d := d + 59) (n0 := 1) (by decide +kernel) (CALL.st s1 (made_9_1 (d := d) ⟨rfl, by decide +kernel, eKst sq1 (by decide +kernel), CALL.st s4 (made_9_28 (d := d) ⟨rfl, by decide +kernel, eKst sq4 (by decide +kernel), CALL.st s7 (made_9_55 (d := d) ⟨rfl, by decide +kernel, eKst sq7 (by decide +kernel), CALL.st s10 (made_2_82 (d := d) ⟨rfl, by decide +kernel, eKst sq10 (by decide +kernel), eKst s12 (by decide +kernel), 82, eFst s12 (by decide +kernel), eKst s12 (by decide +kernel), eKst s12 (by decide +kernel), CALL.st s14 (made_5_108 (d := d) ⟨rfl, by decide +kernel, eKst sq14 (by decide +kernel), CALL.st s17 (made_0_110 (d := d) ⟨rfl, by decide +kernel, eKst sq17 (by decide +kernel), eKst s20 (by decide +kernel), eKst s21 (by decide +kernel), CALL.st s22 (made_8_113 (d := d) ⟨rfl, by decide +kernel, 112, eFst s21 (by decide +kernel), ⟨6, eKst sq22 (by decide +kernel), by decide, by decide, by decide⟩, eKst sq22 (by decide +kernel), eKst s24 (by decide +kernel), CALL.st s25 (made_8_115 (d := d) ⟨rfl, by decide +kernel, 112, eFst s24 (by decide +kernel), ⟨6, eKst sq25 (by decide +kernel), by decide, by decide, by decide⟩, eKst sq25 (by decide +kernel), eKst s27 (by decide +kernel), CALL.st s28 (made_8_117 (d := d) ⟨rfl, by decide +kernel, 112, eFst s27 (by decide +kernel), ⟨6, eKst sq28 (by decide +kernel), by decide, by decide, by decide⟩, eKst sq28 (by decide +kernel), eKst s30 (by decide +kernel), CALL.st s31 (made_8_119 (d := d) ⟨rfl, by decide +kernel, 112, eFst s30 (by decide +kernel), ⟨6, eKst sq31 (by decide +kernel), by decide, by decide, by decide⟩, eKst sq31 (by decide +kernel), eKst s33 (by decide +kernel), CALL.st s34 (made_8_121 (d := d) ⟨rfl, by decide +kernel, 112, eFst s33 (by decide +kernel), ⟨6, eKst sq34 (by decide +kernel), by decide, by decide, by decide⟩, eKst sq34 (by decide +kernel), eKst s36 (by decide +kernel), CALL.st s37 (made_8_123 (d := d) ⟨rfl, by decide +kernel, 112, eFst s36 (by decide +kernel), ⟨6, eKst sq37 (by decide +kernel), by decide, by decide, by decide⟩, eKst sq37 (by decide +kernel), eZst s39 h⟩)⟩)⟩)⟩)⟩)⟩)⟩)⟩)⟩)⟩)⟩)⟩))
theorem made_11_125 {X : mX} {d : Nat} {Q : Option mV → mS → Prop} (h : Q none (stK 158 0 0)) : CALL X (d + 59 + 1) (32, 2047) MX11_init [vP (some 125)] (stK 126 7 32) Q := by
  have s0 : stK 126 7 32 = stK 126 7 32 := rfl
  have s1 := eNst s0 (50, 6) rfl (by decide +kernel) (by decide +kernel) (by decide)
  have s2 := eRst s1 125 1 126 (by decide +kernel)
  have s3 := eNst s2 (50, 6) rfl (by decide +kernel) (by decide +kernel) (by decide)
  have s4 := eRst s3 125 2 127 (by decide +kernel)
  have s5 := eNst s4 (50, 6) rfl (by decide +kernel) (by decide +kernel) (by decide)
  have s6 := eRst s5 125 3 128 (by decide +kernel)
  have s7 := eNst s6 (50, 6) rfl (by decide +kernel) (by decide +kernel) (by decide)
  have s8 := eRst s7 125 4 129 (by decide +kernel)
  have s9 := eNst s8 (50, 24) rfl (by decide +kernel) (by decide +kernel) (by decide)
  have s10 := eRst s9 125 5 130 (by decide +kernel)
  have s11 := eNst s10 (50, 6) rfl (by decide +kernel) (by decide +kernel) (by decide)
  have s12 := eRst s11 125 7 131 (by decide +kernel)
  have s13 := eNst s12 (50, 6) rfl (by decide +kernel) (by decide +kernel) (by decide)
  have s14 := eRst s13 125 8 132 (by decide +kernel)
  have s15 := eNst s14 (50, 6) rfl (by decide +kernel) (by decide +kernel) (by decide)
  have s16 := eRst s15 125 9 133 (by decide +kernel)
  have s17 := eNst s16 (50, 6) rfl (by decide +kernel) (by decide +kernel) (by decide)
  have s18 := eRst s17 125 10 134 (by decide +kernel)
  have s19 := eNst s18 (50, 100) rfl (by decide +kernel) (by decide +kernel) (by decide)
  have s20 := eRst s19 125 13 135 (by decide +kernel)
  have s21 := eNst s20 (50, 6) rfl (by decide +kernel) (by decide +kernel) (by decide)
  have s22 := eRst s21 125 20 136 (by decide +kernel)
  have s23 := eNst s22 (50, 61) rfl (by decide +kernel) (by decide +kernel) (by decide)
  have s24 := eRst s23 125 21 137 (by decide +kernel)
  have s25 := eNst s24 (50, 61) rfl (by decide +kernel) (by decide +kernel) (by decide)
  have s26 := eRst s25 125 22 138 (by decide +kernel)
  have s27 := eNst s26 (50, 61) rfl (by decide +kernel) (by decide +kernel) (by decide)
  have s28 := eRst s27 125 23 139 (by decide +kernel)
  have s29 := eNst s28 (50, 61) rfl (by decide +kernel) (by decide +kernel) (by decide)
  have s30 := eRst s29 125 24 140 (by decide +kernel)
  have s31 := eNst s30 (50, 800) rfl (by decide +kernel) (by decide +kernel) (by decide)
  have s32 := eRst s31 125 25 141 (by decide +kernel)
  have s33 := eNst s32 (52, 110) rfl (by decide +kernel) (by decide +kernel) (by decide)
  have s34 := eRst s33 125 27 142 (by decide +kernel)
  have s35 := eNst s34 (50, 5) rfl (by decide +kernel) (by decide +kernel) (by decide)
  have s36 := eRst s35 125 29 143 (by decide +kernel)
  have s37 := eNst s36 (50, 5) rfl (by decide +kernel) (by decide +kernel) (by decide)
  have s38 := eRst s37 125 30 144 (by decide +kernel)
  have s39 := eNst s38 (50, 5) rfl (by decide +kernel) (by decide +kernel) (by decide)
  have s40 := eRst s39 125 31 145 (by decide +kernel)
  have s41 := eNst s40 (50, 10) rfl (by decide +kernel) (by decide +kernel) (by decide)
  have s42 := eRst s41 125 33 146 (by decide +kernel)
  have s43 := eNst s42 (50, 10) rfl (by decide +kernel) (by decide +kernel) (by decide)
  have s44 := eRst s43 125 34 147 (by decide +kernel)
  have s45 := eNst s44 (50, 8) rfl (by decide +kernel) (by decide +kernel) (by decide)
  have s46 := eRst s45 125 36 148 (by decide +kernel)
  have s47 := eNst s46 (50, 8) rfl (by decide +kernel) (by decide +kernel) (by decide)
  have s48 := eRst s47 125 37 149 (by decide +kernel)
  have s49 := eNst s48 (50, 20) rfl (by decide +kernel) (by decide +kernel) (by decide)
  have s50 := eRst s49 125 39 150 (by decide +kernel)
  have s51 := eNst s50 (50, 130) rfl (by decide +kernel) (by decide +kernel) (by decide)
  have s52 := eRst s51 125 41 151 (by decide +kernel)
  have s53 := eNst s52 (50, 130) rfl (by decide +kernel) (by decide +kernel) (by decide)
  have s54 := eRst s53 125 42 152 (by decide +kernel)
  have s55 := eNst s54 (50, 6) rfl (by decide +kernel) (by decide +kernel) (by decide)
  have s56 := eRst s55 125 43 153 (by decide +kernel)
  have s57 := eNst s56 (50, 6) rfl (by decide +kernel) (by decide +kernel) (by decide)
  have s58 := eRst s57 125 44 154 (by decide +kernel)
  have s59 := eNst s58 (50, 6) rfl (by decide +kernel) (by decide +kernel) (by decide)
  have s60 := eRst s59 125 46 155 (by decide +kernel)
  have s61 := eNst s60 (50, 6) rfl (by decide +kernel) (by decide +kernel) (by decide)
  have s62 := eRst s61 125 47 156 (by decide +kernel)
  have s63 := eNst s62 (53, 360) rfl (by decide +kernel) (by decide +kernel) (by decide)
  have s64 := eRst s63 125 48 157 (by decide +kernel)
  have s65 := eIst s64 125 19 (-1) (by decide +kernel)
  have s66 := eIst s65 155 0 (-1) (by decide +kernel)
  have s67 := eIst s66 155 1 (-1) (by decide +kernel)
  have s68 := eIst s67 155 2 (-1) (by decide +kernel)
  have s69 := eIst s68 155 3 (-1) (by decide +kernel)
  have s70 := eIst s69 155 4 (-1) (by decide +kernel)
  have s71 := eIst s70 155 5 (-1) (by decide +kernel)
  exact B_X11_init (d := d + 59) (n0 := 126) (by decide +kernel) ⟨eKst s1 (by decide +kernel), eKst s3 (by decide +kernel), eKst s5 (by decide +kernel), eKst s7 (by decide +kernel), eKst s9 (by decide +kernel), eKst s11 (by decide +kernel), eKst s13 (by decide +kernel), eKst s15 (by decide +kernel), eKst s17 (by decide +kernel), eKst s19 (by decide +kernel), eKst s21 (by decide +kernel), eKst s23 (by decide +kernel), eKst s25 (by decide +kernel), eKst s27 (by decide +kernel), eKst s29 (by decide +kernel), eKst s31 (by decide +kernel), eKst s33 (by decide +kernel), eKst s35 (by decide +kernel), eKst s37 (by decide +kernel), eKst s39 (by decide +kernel), eKst s41 (by decide +kernel), eKst s43 (by decide +kernel), eKst s45 (by decide +kernel), eKst s47 (by decide +kernel), eKst s49 (by decide +kernel), eKst s51 (by decide +kernel), eKst s53 (by decide +kernel), eKst s55 (by decide +kernel), eKst s57 (by decide +kernel), eKst s59 (by decide +kernel), eKst s61 (by decide +kernel), eKst s63 (by decide +kernel), eKst s64 (by decide +kernel), eKst s65 (by decide +kernel), 155, eFst s65 (by decide +kernel), ⟨6, eKst s65 (by decide +kernel), by decide, by decide, by decide⟩, eKst s66 (by decide +kernel), 155, eFst s66 (by decide +kernel), ⟨6, eKst s66 (by decide +kernel), by decide, by decide, by decide⟩, eKst s67 (by decide +kernel), 155, eFst s67 (by decide +kernel), ⟨6, eKst s67 (by decide +kernel), by decide, by decide, by decide⟩, eKst s68 (by decide +kernel), 155, eFst s68 (by decide +kernel), ⟨6, eKst s68 (by decide +kernel), by decide, by decide, by decide⟩, eKst s69 (by decide +kernel), 155, eFst s69 (by decide +kernel), ⟨6, eKst s69 (by decide +kernel), by decide, by decide, by decide⟩, eKst s70 (by decide +kernel), 155, eFst s70 (by decide +kernel), ⟨6, eKst s70 (by decide +kernel), by decide, by decide, by decide⟩, eZst s71 h⟩
