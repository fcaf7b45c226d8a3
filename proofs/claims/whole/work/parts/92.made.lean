/-! BOTH CONSTRUCTORS, run step by step (written by wip/whole/gen92.py) -/
def refL : List (Nat × Nat × Nat) := [(138, 48, 170), (138, 47, 169), (138, 46, 168), (138, 44, 167), (138, 43, 166), (138, 42, 165), (138, 41, 164), (138, 39, 163), (138, 37, 162), (138, 36, 161), (138, 34, 160), (138, 33, 159), (138, 31, 158), (138, 30, 157), (138, 29, 156), (138, 27, 155), (138, 25, 154), (138, 24, 153), (138, 23, 152), (138, 22, 151), (138, 21, 150), (138, 20, 149), (138, 13, 148), (138, 10, 147), (138, 9, 146), (138, 8, 145), (138, 7, 144), (138, 5, 143), (138, 4, 142), (138, 3, 141), (138, 2, 140), (138, 1, 139), (125, 5, 136), (136, 0, 137), (125, 4, 134), (134, 0, 135), (125, 3, 132), (132, 0, 133), (125, 2, 130), (130, 0, 131), (125, 1, 128), (128, 0, 129), (125, 0, 126), (126, 0, 127), (0, 7, 125), (0, 6, 123), (123, 0, 124), (0, 5, 121), (121, 0, 122), (0, 4, 83), (0, 3, 82), (82, 5, 120), (82, 4, 119), (82, 3, 118), (82, 2, 117), (82, 1, 116), (82, 0, 83), (84, 5, 111), (111, 3, 115), (111, 2, 114), (111, 1, 113), (111, 0, 112), (84, 4, 106), (106, 3, 110), (106, 2, 109), (106, 1, 108), (106, 0, 107), (84, 3, 101), (101, 3, 105), (101, 2, 104), (101, 1, 103), (101, 0, 102), (84, 2, 96), (96, 3, 100), (96, 2, 99), (96, 1, 98), (96, 0, 97), (84, 1, 91), (91, 3, 95), (91, 2, 94), (91, 1, 93), (91, 0, 92), (84, 0, 86), (86, 3, 90), (86, 2, 89), (86, 1, 88), (86, 0, 87), (83, 1, 85), (83, 0, 84), (0, 2, 55), (57, 5, 81), (56, 5, 79), (79, 4, 80), (57, 4, 78), (56, 4, 76), (76, 4, 77), (57, 3, 75), (56, 3, 73), (73, 4, 74), (57, 2, 72), (56, 2, 70), (70, 4, 71), (57, 1, 69), (56, 1, 67), (67, 4, 68), (57, 0, 66), (56, 0, 64), (64, 4, 65), (55, 4, 62), (62, 0, 63), (55, 3, 60), (60, 0, 61), (55, 2, 58), (58, 0, 59), (55, 1, 57), (55, 0, 56), (0, 1, 28), (30, 5, 54), (29, 5, 52), (52, 4, 53), (30, 4, 51), (29, 4, 49), (49, 4, 50), (30, 3, 48), (29, 3, 46), (46, 4, 47), (30, 2, 45), (29, 2, 43), (43, 4, 44), (30, 1, 42), (29, 1, 40), (40, 4, 41), (30, 0, 39), (29, 0, 37), (37, 4, 38), (28, 4, 35), (35, 0, 36), (28, 3, 33), (33, 0, 34), (28, 2, 31), (31, 0, 32), (28, 1, 30), (28, 0, 29), (0, 0, 1), (3, 5, 27), (2, 5, 25), (25, 4, 26), (3, 4, 24), (2, 4, 22), (22, 4, 23), (3, 3, 21), (2, 3, 19), (19, 4, 20), (3, 2, 18), (2, 2, 16), (16, 4, 17), (3, 1, 15), (2, 1, 13), (13, 4, 14), (3, 0, 12), (2, 0, 10), (10, 4, 11), (1, 4, 8), (8, 0, 9), (1, 3, 6), (6, 0, 7), (1, 2, 4), (4, 0, 5), (1, 1, 3), (1, 0, 2)]
def intL : List (Nat × Nat × Int) := [(168, 5, -1), (168, 4, -1), (168, 3, -1), (168, 2, -1), (168, 1, -1), (168, 0, -1), (138, 19, -1), (136, 1, -1), (134, 1, -1), (132, 1, -1), (130, 1, -1), (128, 1, -1), (126, 1, -1), (55, 8, -1), (62, 1, 8), (60, 1, 10), (58, 1, 5), (28, 8, -1), (35, 1, 8), (33, 1, 10), (31, 1, 5), (1, 8, -1), (8, 1, 8), (6, 1, 10), (4, 1, 5)]
def lkR : List (Nat × Nat × Nat) → Nat → Nat → Option Nat
  | [] => fun _ _ => none
  | e :: t => fun x y => if x = e.1 ∧ y = e.2.1 then some e.2.2 else lkR t x y
def lkI : List (Nat × Nat × Int) → Nat → Nat → Int
  | [] => fun _ _ => 0
  | e :: t => fun x y => if x = e.1 ∧ y = e.2.1 then e.2.2 else lkI t x y
def stK (n i r : Nat) : mS := (SHL.take n, lkI (intL.drop i), fun _ _ => 0, lkR (refL.drop r))
def okKst (n i r : Nat) : Bool := Nat.ble n 171 && (intL.drop i).all (fun e => Nat.blt e.1 n) && (refL.drop r).all (fun e => Nat.blt e.1 n)
theorem lkR_no {n : Nat} : ∀ (L : List (Nat × Nat × Nat)), L.all (fun e => Nat.blt e.1 n) = true → ∀ y, lkR L n y = none
  | [], _, _ => rfl
  | e :: t, h, y => by
    simp only [List.all_cons, Bool.and_eq_true, Nat.blt_eq] at h
    simp only [lkR]
    rw [if_neg (by omega)]
    exact lkR_no t h.2 y
theorem lkI_no {n : Nat} : ∀ (L : List (Nat × Nat × Int)), L.all (fun e => Nat.blt e.1 n) = true → ∀ y, lkI L n y = 0
  | [], _, _ => rfl
  | e :: t, h, y => by
    simp only [List.all_cons, Bool.and_eq_true, Nat.blt_eq] at h
    simp only [lkI]
    rw [if_neg (by omega)]
    exact lkI_no t h.2 y
theorem SHL_len : SHL.length = 171 := by decide +kernel
theorem eNst {S : mS} {n i r : Nat} (e : S = stK n i r) (kd : Nat × Nat) {n' : Nat} (hn : n' = n + 1) (hk : SHL[n]? = some kd) (hc : okKst n i r = true) : mNew S kd = stK n' i r := by
  subst hn
  subst e
  simp only [okKst, Bool.and_eq_true] at hc
  obtain ⟨⟨c1, c2⟩, c3⟩ := hc
  have hl : (SHL.take n).length = n := by rw [List.length_take, SHL_len]; have := Nat.le_of_ble_eq_true c1; omega
  unfold mNew stK
  simp only [hl]
  refine Prod.ext ?_ (Prod.ext ?_ (Prod.ext ?_ ?_))
  · simp only [List.take_add_one, hk, Option.toList]
  · funext b j
    simp only
    split
    · rename_i hb; subst hb; exact (lkI_no _ c2 j).symm
    · rfl
  · funext b j
    simp only
    split <;> rfl
  · funext b j
    simp only
    split
    · rename_i hb; subst hb; exact (lkR_no _ c3 j).symm
    · rfl
theorem eRst {S : mS} {n i r : Nat} (e : S = stK n i (r + 1)) (a k b : Nat) (hr : refL[r]? = some (a, k, b)) : sR S a k (some b) = stK n i r := by
  subst e
  obtain ⟨h1, h2⟩ := List.getElem?_eq_some_iff.1 hr
  unfold sR stK
  rw [List.drop_eq_getElem_cons h1, h2]
  rfl
theorem eRst2 {S : mS} {n i r : Nat} {v : Option Nat} {b : Nat} (e : S = stK n i (r + 1)) (a k : Nat) (hv : v = some b) (hr : refL[r]? = some (a, k, b)) : sR S a k v = stK n i r := by
  subst hv
  exact eRst e a k b hr
theorem eIst {S : mS} {n i r : Nat} (e : S = stK n (i + 1) r) (a k : Nat) (b : Int) (hr : intL[i]? = some (a, k, b)) : sI S a k b = stK n i r := by
  subst e
  obtain ⟨h1, h2⟩ := List.getElem?_eq_some_iff.1 hr
  unfold sI stK
  rw [List.drop_eq_getElem_cons h1, h2]
  rfl
theorem eFst {S : mS} {n i r a k b : Nat} (e : S = stK n i r) (h : lkR (refL.drop r) a k = some b) : S.2.2.2 a k = some b := by subst e; exact h
theorem eKst {S : mS} {n i r a : Nat} {kd : Nat × Nat} (e : S = stK n i r) (h : (SHL.take n)[a]? = some kd) : S.1[a]? = some kd := by subst e; exact h
theorem eZst {S S' : mS} {Q : Option mV → mS → Prop} (e : S = S') (h : Q none S') : Q none S := e ▸ h
theorem CALL.st {X : mX} {d : Nat} {b : Nat × Nat} {M : mM} {As : List mV} {S S' : mS} {Q : Option mV → mS → Prop} (e : S = S') (k : CALL X d b M As S' Q) : CALL X d b M As S Q := e ▸ k
theorem made_rows {X : mX} {d a0 n0 : Nat} {x1 : Int} {σ : mS} {Q : Option mV → mS → Prop} (hn : σ.1.length = n0) (h : (0 ≤ x1 ∧ x1 ≤ 100) ∧ σ.1[a0]? = some (6, 0) ∧ Q none (sR (mNew (sI σ a0 1 x1) (50, (x1 * 3).toNat)) a0 0 (some n0))) : CALL X (d + 1) (1, (max 0 (min x1 100) * 3).toNat) MX6_init [vP (some a0), vI x1] σ Q := by
  obtain ⟨h1, h2, h3⟩ := h
  have e : max 0 (min x1 100) = x1 := by omega
  have e2 : (sI σ a0 1 x1).2.1 a0 1 = x1 := by rw [sI_at, if_pos ⟨rfl, rfl⟩]
  have ha : a0 < σ.1.length := (List.getElem?_eq_some_iff.1 h2).1
  refine B_X6_init hn ⟨by omega, by omega, h2, h2, ?_⟩
  rw [e, e2]
  refine ⟨by omega, by omega, ?_, h3⟩
  show (σ.1 ++ [_])[a0]? = _
  rw [List.getElem?_append_left ha]
  exact h2
theorem made_6_4 {X : mX} {d : Nat} {Q : Option mV → mS → Prop} (h : Q none (stK 6 24 167)) : CALL X (d + 57 + 1) (1, 15) MX6_init [vP (some 4), vI 5] (stK 5 25 168) Q := by
  have s0 : stK 5 25 168 = stK 5 25 168 := rfl
  have s1 := eIst s0 4 1 (5) (by decide +kernel)
  have s2 := eNst s1 (50, 15) rfl (by decide +kernel) (by decide +kernel)
  have s3 := eRst s2 4 0 5 (by decide +kernel)
  exact made_rows (d := d + 57) (x1 := 5) (n0 := 5) (by decide +kernel) ⟨⟨by decide, by decide⟩, eKst s0 (by decide +kernel), eZst s3 h⟩
theorem made_6_6 {X : mX} {d : Nat} {Q : Option mV → mS → Prop} (h : Q none (stK 8 23 165)) : CALL X (d + 57 + 1) (1, 30) MX6_init [vP (some 6), vI 10] (stK 7 24 166) Q := by
  have s0 : stK 7 24 166 = stK 7 24 166 := rfl
  have s1 := eIst s0 6 1 (10) (by decide +kernel)
  have s2 := eNst s1 (50, 30) rfl (by decide +kernel) (by decide +kernel)
  have s3 := eRst s2 6 0 7 (by decide +kernel)
  exact made_rows (d := d + 57) (x1 := 10) (n0 := 7) (by decide +kernel) ⟨⟨by decide, by decide⟩, eKst s0 (by decide +kernel), eZst s3 h⟩
theorem made_6_8 {X : mX} {d : Nat} {Q : Option mV → mS → Prop} (h : Q none (stK 10 22 163)) : CALL X (d + 57 + 1) (1, 24) MX6_init [vP (some 8), vI 8] (stK 9 23 164) Q := by
  have s0 : stK 9 23 164 = stK 9 23 164 := rfl
  have s1 := eIst s0 8 1 (8) (by decide +kernel)
  have s2 := eNst s1 (50, 24) rfl (by decide +kernel) (by decide +kernel)
  have s3 := eRst s2 8 0 9 (by decide +kernel)
  exact made_rows (d := d + 57) (x1 := 8) (n0 := 9) (by decide +kernel) ⟨⟨by decide, by decide⟩, eKst s0 (by decide +kernel), eZst s3 h⟩
theorem made_3_10 {X : mX} {d : Nat} {Q : Option mV → mS → Prop} (h : Q none (stK 12 21 161)) : CALL X (d + 57 + 1) (1, 4) MX3_init [vP (some 10)] (stK 11 21 162) Q := by
  have s0 : stK 11 21 162 = stK 11 21 162 := rfl
  have s1 := eNst s0 (50, 4) rfl (by decide +kernel) (by decide +kernel)
  have s2 := eRst s1 10 4 11 (by decide +kernel)
  exact B_X3_init (d := d + 57) (n0 := 11) (by decide +kernel) ⟨eKst s1 (by decide +kernel), eZst s2 h⟩
theorem made_4_12 {X : mX} {d : Nat} {Q : Option mV → mS → Prop} (h : Q none (stK 13 21 160)) : CALL X (d + 57 + 1) (0, 0) MX4_init [vP (some 12)] (stK 13 21 160) Q := by
  have s0 : stK 13 21 160 = stK 13 21 160 := rfl
  exact B_X4_init (d := d + 57) (n0 := 13) (by decide +kernel) (eZst s0 h)
theorem made_3_13 {X : mX} {d : Nat} {Q : Option mV → mS → Prop} (h : Q none (stK 15 21 158)) : CALL X (d + 57 + 1) (1, 4) MX3_init [vP (some 13)] (stK 14 21 159) Q := by
  have s0 : stK 14 21 159 = stK 14 21 159 := rfl
  have s1 := eNst s0 (50, 4) rfl (by decide +kernel) (by decide +kernel)
  have s2 := eRst s1 13 4 14 (by decide +kernel)
  exact B_X3_init (d := d + 57) (n0 := 14) (by decide +kernel) ⟨eKst s1 (by decide +kernel), eZst s2 h⟩
theorem made_4_15 {X : mX} {d : Nat} {Q : Option mV → mS → Prop} (h : Q none (stK 16 21 157)) : CALL X (d + 57 + 1) (0, 0) MX4_init [vP (some 15)] (stK 16 21 157) Q := by
  have s0 : stK 16 21 157 = stK 16 21 157 := rfl
  exact B_X4_init (d := d + 57) (n0 := 16) (by decide +kernel) (eZst s0 h)
theorem made_3_16 {X : mX} {d : Nat} {Q : Option mV → mS → Prop} (h : Q none (stK 18 21 155)) : CALL X (d + 57 + 1) (1, 4) MX3_init [vP (some 16)] (stK 17 21 156) Q := by
  have s0 : stK 17 21 156 = stK 17 21 156 := rfl
  have s1 := eNst s0 (50, 4) rfl (by decide +kernel) (by decide +kernel)
  have s2 := eRst s1 16 4 17 (by decide +kernel)
  exact B_X3_init (d := d + 57) (n0 := 17) (by decide +kernel) ⟨eKst s1 (by decide +kernel), eZst s2 h⟩
theorem made_4_18 {X : mX} {d : Nat} {Q : Option mV → mS → Prop} (h : Q none (stK 19 21 154)) : CALL X (d + 57 + 1) (0, 0) MX4_init [vP (some 18)] (stK 19 21 154) Q := by
  have s0 : stK 19 21 154 = stK 19 21 154 := rfl
  exact B_X4_init (d := d + 57) (n0 := 19) (by decide +kernel) (eZst s0 h)
theorem made_3_19 {X : mX} {d : Nat} {Q : Option mV → mS → Prop} (h : Q none (stK 21 21 152)) : CALL X (d + 57 + 1) (1, 4) MX3_init [vP (some 19)] (stK 20 21 153) Q := by
  have s0 : stK 20 21 153 = stK 20 21 153 := rfl
  have s1 := eNst s0 (50, 4) rfl (by decide +kernel) (by decide +kernel)
  have s2 := eRst s1 19 4 20 (by decide +kernel)
  exact B_X3_init (d := d + 57) (n0 := 20) (by decide +kernel) ⟨eKst s1 (by decide +kernel), eZst s2 h⟩
theorem made_4_21 {X : mX} {d : Nat} {Q : Option mV → mS → Prop} (h : Q none (stK 22 21 151)) : CALL X (d + 57 + 1) (0, 0) MX4_init [vP (some 21)] (stK 22 21 151) Q := by
  have s0 : stK 22 21 151 = stK 22 21 151 := rfl
  exact B_X4_init (d := d + 57) (n0 := 22) (by decide +kernel) (eZst s0 h)
theorem made_3_22 {X : mX} {d : Nat} {Q : Option mV → mS → Prop} (h : Q none (stK 24 21 149)) : CALL X (d + 57 + 1) (1, 4) MX3_init [vP (some 22)] (stK 23 21 150) Q := by
  have s0 : stK 23 21 150 = stK 23 21 150 := rfl
  have s1 := eNst s0 (50, 4) rfl (by decide +kernel) (by decide +kernel)
  have s2 := eRst s1 22 4 23 (by decide +kernel)
  exact B_X3_init (d := d + 57) (n0 := 23) (by decide +kernel) ⟨eKst s1 (by decide +kernel), eZst s2 h⟩
theorem made_4_24 {X : mX} {d : Nat} {Q : Option mV → mS → Prop} (h : Q none (stK 25 21 148)) : CALL X (d + 57 + 1) (0, 0) MX4_init [vP (some 24)] (stK 25 21 148) Q := by
  have s0 : stK 25 21 148 = stK 25 21 148 := rfl
  exact B_X4_init (d := d + 57) (n0 := 25) (by decide +kernel) (eZst s0 h)
theorem made_3_25 {X : mX} {d : Nat} {Q : Option mV → mS → Prop} (h : Q none (stK 27 21 146)) : CALL X (d + 57 + 1) (1, 4) MX3_init [vP (some 25)] (stK 26 21 147) Q := by
  have s0 : stK 26 21 147 = stK 26 21 147 := rfl
  have s1 := eNst s0 (50, 4) rfl (by decide +kernel) (by decide +kernel)
  have s2 := eRst s1 25 4 26 (by decide +kernel)
  exact B_X3_init (d := d + 57) (n0 := 26) (by decide +kernel) ⟨eKst s1 (by decide +kernel), eZst s2 h⟩
theorem made_4_27 {X : mX} {d : Nat} {Q : Option mV → mS → Prop} (h : Q none (stK 28 21 145)) : CALL X (d + 57 + 1) (0, 0) MX4_init [vP (some 27)] (stK 28 21 145) Q := by
  have s0 : stK 28 21 145 = stK 28 21 145 := rfl
  exact B_X4_init (d := d + 57) (n0 := 28) (by decide +kernel) (eZst s0 h)
theorem made_9_1 {X : mX} {d : Nat} {Q : Option mV → mS → Prop} (h : Q none (stK 28 21 144)) : CALL X (d + 58 + 1) (26, 168) MX9_init [vP (some 1)] (stK 2 25 170) Q := by
  have s0 : stK 2 25 170 = stK 2 25 170 := rfl
  have s1 := eNst s0 (54, 6) rfl (by decide +kernel) (by decide +kernel)
  have s2 := eRst s1 1 0 2 (by decide +kernel)
  have s3 := eNst s2 (55, 6) rfl (by decide +kernel) (by decide +kernel)
  have s4 := eRst s3 1 1 3 (by decide +kernel)
  have s5 := eNst s4 (6, 0) rfl (by decide +kernel) (by decide +kernel)
  have sq5 : stK 6 24 167 = stK 6 24 167 := rfl
  have s7 := eRst sq5 1 2 4 (by decide +kernel)
  have s8 := eNst s7 (6, 0) rfl (by decide +kernel) (by decide +kernel)
  have sq8 : stK 8 23 165 = stK 8 23 165 := rfl
  have s10 := eRst sq8 1 3 6 (by decide +kernel)
  have s11 := eNst s10 (6, 0) rfl (by decide +kernel) (by decide +kernel)
  have sq11 : stK 10 22 163 = stK 10 22 163 := rfl
  have s13 := eRst sq11 1 4 8 (by decide +kernel)
  have s14 := eIst s13 1 8 (-1) (by decide +kernel)
  have s15 := eNst s14 (3, 0) rfl (by decide +kernel) (by decide +kernel)
  have sq15 : stK 12 21 161 = stK 12 21 161 := rfl
  have s17 := eRst sq15 2 0 10 (by decide +kernel)
  have s18 := eNst s17 (4, 0) rfl (by decide +kernel) (by decide +kernel)
  have sq18 : stK 13 21 160 = stK 13 21 160 := rfl
  have s20 := eRst sq18 3 0 12 (by decide +kernel)
  have s21 := eNst s20 (3, 0) rfl (by decide +kernel) (by decide +kernel)
  have sq21 : stK 15 21 158 = stK 15 21 158 := rfl
  have s23 := eRst sq21 2 1 13 (by decide +kernel)
  have s24 := eNst s23 (4, 0) rfl (by decide +kernel) (by decide +kernel)
  have sq24 : stK 16 21 157 = stK 16 21 157 := rfl
  have s26 := eRst sq24 3 1 15 (by decide +kernel)
  have s27 := eNst s26 (3, 0) rfl (by decide +kernel) (by decide +kernel)
  have sq27 : stK 18 21 155 = stK 18 21 155 := rfl
  have s29 := eRst sq27 2 2 16 (by decide +kernel)
  have s30 := eNst s29 (4, 0) rfl (by decide +kernel) (by decide +kernel)
  have sq30 : stK 19 21 154 = stK 19 21 154 := rfl
  have s32 := eRst sq30 3 2 18 (by decide +kernel)
  have s33 := eNst s32 (3, 0) rfl (by decide +kernel) (by decide +kernel)
  have sq33 : stK 21 21 152 = stK 21 21 152 := rfl
  have s35 := eRst sq33 2 3 19 (by decide +kernel)
  have s36 := eNst s35 (4, 0) rfl (by decide +kernel) (by decide +kernel)
  have sq36 : stK 22 21 151 = stK 22 21 151 := rfl
  have s38 := eRst sq36 3 3 21 (by decide +kernel)
  have s39 := eNst s38 (3, 0) rfl (by decide +kernel) (by decide +kernel)
  have sq39 : stK 24 21 149 = stK 24 21 149 := rfl
  have s41 := eRst sq39 2 4 22 (by decide +kernel)
  have s42 := eNst s41 (4, 0) rfl (by decide +kernel) (by decide +kernel)
  have sq42 : stK 25 21 148 = stK 25 21 148 := rfl
  have s44 := eRst sq42 3 4 24 (by decide +kernel)
  have s45 := eNst s44 (3, 0) rfl (by decide +kernel) (by decide +kernel)
  have sq45 : stK 27 21 146 = stK 27 21 146 := rfl
  have s47 := eRst sq45 2 5 25 (by decide +kernel)
  have s48 := eNst s47 (4, 0) rfl (by decide +kernel) (by decide +kernel)
  have sq48 : stK 28 21 145 = stK 28 21 145 := rfl
  have s50 := eRst sq48 3 5 27 (by decide +kernel)
  exact B_X9_init (d := d + 58) (n0 := 2) (by decide +kernel) ⟨eKst s1 (by decide +kernel), eKst s3 (by decide +kernel), CALL.st s5 (made_6_4 (d := d) ⟨rfl, by decide +kernel, eKst sq5 (by decide +kernel), CALL.st s8 (made_6_6 (d := d) ⟨rfl, by decide +kernel, eKst sq8 (by decide +kernel), CALL.st s11 (made_6_8 (d := d) ⟨rfl, by decide +kernel, eKst sq11 (by decide +kernel), eKst s13 (by decide +kernel), eKst s14 (by decide +kernel), CALL.st s15 (made_3_10 (d := d) ⟨rfl, by decide +kernel, 2, eFst s14 (by decide +kernel), ⟨6, eKst sq15 (by decide +kernel), by decide, by decide, by decide⟩, eKst sq15 (by decide +kernel), eKst s17 (by decide +kernel), CALL.st s18 (made_4_12 (d := d) ⟨rfl, by decide +kernel, 3, eFst s17 (by decide +kernel), ⟨6, eKst sq18 (by decide +kernel), by decide, by decide, by decide⟩, eKst sq18 (by decide +kernel), eKst s20 (by decide +kernel), CALL.st s21 (made_3_13 (d := d) ⟨rfl, by decide +kernel, 2, eFst s20 (by decide +kernel), ⟨6, eKst sq21 (by decide +kernel), by decide, by decide, by decide⟩, eKst sq21 (by decide +kernel), eKst s23 (by decide +kernel), CALL.st s24 (made_4_15 (d := d) ⟨rfl, by decide +kernel, 3, eFst s23 (by decide +kernel), ⟨6, eKst sq24 (by decide +kernel), by decide, by decide, by decide⟩, eKst sq24 (by decide +kernel), eKst s26 (by decide +kernel), CALL.st s27 (made_3_16 (d := d) ⟨rfl, by decide +kernel, 2, eFst s26 (by decide +kernel), ⟨6, eKst sq27 (by decide +kernel), by decide, by decide, by decide⟩, eKst sq27 (by decide +kernel), eKst s29 (by decide +kernel), CALL.st s30 (made_4_18 (d := d) ⟨rfl, by decide +kernel, 3, eFst s29 (by decide +kernel), ⟨6, eKst sq30 (by decide +kernel), by decide, by decide, by decide⟩, eKst sq30 (by decide +kernel), eKst s32 (by decide +kernel), CALL.st s33 (made_3_19 (d := d) ⟨rfl, by decide +kernel, 2, eFst s32 (by decide +kernel), ⟨6, eKst sq33 (by decide +kernel), by decide, by decide, by decide⟩, eKst sq33 (by decide +kernel), eKst s35 (by decide +kernel), CALL.st s36 (made_4_21 (d := d) ⟨rfl, by decide +kernel, 3, eFst s35 (by decide +kernel), ⟨6, eKst sq36 (by decide +kernel), by decide, by decide, by decide⟩, eKst sq36 (by decide +kernel), eKst s38 (by decide +kernel), CALL.st s39 (made_3_22 (d := d) ⟨rfl, by decide +kernel, 2, eFst s38 (by decide +kernel), ⟨6, eKst sq39 (by decide +kernel), by decide, by decide, by decide⟩, eKst sq39 (by decide +kernel), eKst s41 (by decide +kernel), CALL.st s42 (made_4_24 (d := d) ⟨rfl, by decide +kernel, 3, eFst s41 (by decide +kernel), ⟨6, eKst sq42 (by decide +kernel), by decide, by decide, by decide⟩, eKst sq42 (by decide +kernel), eKst s44 (by decide +kernel), CALL.st s45 (made_3_25 (d := d) ⟨rfl, by decide +kernel, 2, eFst s44 (by decide +kernel), ⟨6, eKst sq45 (by decide +kernel), by decide, by decide, by decide⟩, eKst sq45 (by decide +kernel), eKst s47 (by decide +kernel), CALL.st s48 (made_4_27 (d := d) ⟨rfl, by decide +kernel, 3, eFst s47 (by decide +kernel), ⟨6, eKst sq48 (by decide +kernel), by decide, by decide, by decide⟩, eKst sq48 (by decide +kernel), eZst s50 h⟩)⟩)⟩)⟩)⟩)⟩)⟩)⟩)⟩)⟩)⟩)⟩)⟩)⟩)⟩)⟩
theorem made_6_31 {X : mX} {d : Nat} {Q : Option mV → mS → Prop} (h : Q none (stK 33 20 140)) : CALL X (d + 57 + 1) (1, 15) MX6_init [vP (some 31), vI 5] (stK 32 21 141) Q := by
  have s0 : stK 32 21 141 = stK 32 21 141 := rfl
  have s1 := eIst s0 31 1 (5) (by decide +kernel)
  have s2 := eNst s1 (50, 15) rfl (by decide +kernel) (by decide +kernel)
  have s3 := eRst s2 31 0 32 (by decide +kernel)
  exact made_rows (d := d + 57) (x1 := 5) (n0 := 32) (by decide +kernel) ⟨⟨by decide, by decide⟩, eKst s0 (by decide +kernel), eZst s3 h⟩
theorem made_6_33 {X : mX} {d : Nat} {Q : Option mV → mS → Prop} (h : Q none (stK 35 19 138)) : CALL X (d + 57 + 1) (1, 30) MX6_init [vP (some 33), vI 10] (stK 34 20 139) Q := by
  have s0 : stK 34 20 139 = stK 34 20 139 := rfl
  have s1 := eIst s0 33 1 (10) (by decide +kernel)
  have s2 := eNst s1 (50, 30) rfl (by decide +kernel) (by decide +kernel)
  have s3 := eRst s2 33 0 34 (by decide +kernel)
  exact made_rows (d := d + 57) (x1 := 10) (n0 := 34) (by decide +kernel) ⟨⟨by decide, by decide⟩, eKst s0 (by decide +kernel), eZst s3 h⟩
theorem made_6_35 {X : mX} {d : Nat} {Q : Option mV → mS → Prop} (h : Q none (stK 37 18 136)) : CALL X (d + 57 + 1) (1, 24) MX6_init [vP (some 35), vI 8] (stK 36 19 137) Q := by
  have s0 : stK 36 19 137 = stK 36 19 137 := rfl
  have s1 := eIst s0 35 1 (8) (by decide +kernel)
  have s2 := eNst s1 (50, 24) rfl (by decide +kernel) (by decide +kernel)
  have s3 := eRst s2 35 0 36 (by decide +kernel)
  exact made_rows (d := d + 57) (x1 := 8) (n0 := 36) (by decide +kernel) ⟨⟨by decide, by decide⟩, eKst s0 (by decide +kernel), eZst s3 h⟩
theorem made_3_37 {X : mX} {d : Nat} {Q : Option mV → mS → Prop} (h : Q none (stK 39 17 134)) : CALL X (d + 57 + 1) (1, 4) MX3_init [vP (some 37)] (stK 38 17 135) Q := by
  have s0 : stK 38 17 135 = stK 38 17 135 := rfl
  have s1 := eNst s0 (50, 4) rfl (by decide +kernel) (by decide +kernel)
  have s2 := eRst s1 37 4 38 (by decide +kernel)
  exact B_X3_init (d := d + 57) (n0 := 38) (by decide +kernel) ⟨eKst s1 (by decide +kernel), eZst s2 h⟩
theorem made_4_39 {X : mX} {d : Nat} {Q : Option mV → mS → Prop} (h : Q none (stK 40 17 133)) : CALL X (d + 57 + 1) (0, 0) MX4_init [vP (some 39)] (stK 40 17 133) Q := by
  have s0 : stK 40 17 133 = stK 40 17 133 := rfl
  exact B_X4_init (d := d + 57) (n0 := 40) (by decide +kernel) (eZst s0 h)
theorem made_3_40 {X : mX} {d : Nat} {Q : Option mV → mS → Prop} (h : Q none (stK 42 17 131)) : CALL X (d + 57 + 1) (1, 4) MX3_init [vP (some 40)] (stK 41 17 132) Q := by
  have s0 : stK 41 17 132 = stK 41 17 132 := rfl
  have s1 := eNst s0 (50, 4) rfl (by decide +kernel) (by decide +kernel)
  have s2 := eRst s1 40 4 41 (by decide +kernel)
  exact B_X3_init (d := d + 57) (n0 := 41) (by decide +kernel) ⟨eKst s1 (by decide +kernel), eZst s2 h⟩
theorem made_4_42 {X : mX} {d : Nat} {Q : Option mV → mS → Prop} (h : Q none (stK 43 17 130)) : CALL X (d + 57 + 1) (0, 0) MX4_init [vP (some 42)] (stK 43 17 130) Q := by
  have s0 : stK 43 17 130 = stK 43 17 130 := rfl
  exact B_X4_init (d := d + 57) (n0 := 43) (by decide +kernel) (eZst s0 h)
theorem made_3_43 {X : mX} {d : Nat} {Q : Option mV → mS → Prop} (h : Q none (stK 45 17 128)) : CALL X (d + 57 + 1) (1, 4) MX3_init [vP (some 43)] (stK 44 17 129) Q := by
  have s0 : stK 44 17 129 = stK 44 17 129 := rfl
  have s1 := eNst s0 (50, 4) rfl (by decide +kernel) (by decide +kernel)
  have s2 := eRst s1 43 4 44 (by decide +kernel)
  exact B_X3_init (d := d + 57) (n0 := 44) (by decide +kernel) ⟨eKst s1 (by decide +kernel), eZst s2 h⟩
theorem made_4_45 {X : mX} {d : Nat} {Q : Option mV → mS → Prop} (h : Q none (stK 46 17 127)) : CALL X (d + 57 + 1) (0, 0) MX4_init [vP (some 45)] (stK 46 17 127) Q := by
  have s0 : stK 46 17 127 = stK 46 17 127 := rfl
  exact B_X4_init (d := d + 57) (n0 := 46) (by decide +kernel) (eZst s0 h)
theorem made_3_46 {X : mX} {d : Nat} {Q : Option mV → mS → Prop} (h : Q none (stK 48 17 125)) : CALL X (d + 57 + 1) (1, 4) MX3_init [vP (some 46)] (stK 47 17 126) Q := by
  have s0 : stK 47 17 126 = stK 47 17 126 := rfl
  have s1 := eNst s0 (50, 4) rfl (by decide +kernel) (by decide +kernel)
  have s2 := eRst s1 46 4 47 (by decide +kernel)
  exact B_X3_init (d := d + 57) (n0 := 47) (by decide +kernel) ⟨eKst s1 (by decide +kernel), eZst s2 h⟩
theorem made_4_48 {X : mX} {d : Nat} {Q : Option mV → mS → Prop} (h : Q none (stK 49 17 124)) : CALL X (d + 57 + 1) (0, 0) MX4_init [vP (some 48)] (stK 49 17 124) Q := by
  have s0 : stK 49 17 124 = stK 49 17 124 := rfl
  exact B_X4_init (d := d + 57) (n0 := 49) (by decide +kernel) (eZst s0 h)
theorem made_3_49 {X : mX} {d : Nat} {Q : Option mV → mS → Prop} (h : Q none (stK 51 17 122)) : CALL X (d + 57 + 1) (1, 4) MX3_init [vP (some 49)] (stK 50 17 123) Q := by
  have s0 : stK 50 17 123 = stK 50 17 123 := rfl
  have s1 := eNst s0 (50, 4) rfl (by decide +kernel) (by decide +kernel)
  have s2 := eRst s1 49 4 50 (by decide +kernel)
  exact B_X3_init (d := d + 57) (n0 := 50) (by decide +kernel) ⟨eKst s1 (by decide +kernel), eZst s2 h⟩
theorem made_4_51 {X : mX} {d : Nat} {Q : Option mV → mS → Prop} (h : Q none (stK 52 17 121)) : CALL X (d + 57 + 1) (0, 0) MX4_init [vP (some 51)] (stK 52 17 121) Q := by
  have s0 : stK 52 17 121 = stK 52 17 121 := rfl
  exact B_X4_init (d := d + 57) (n0 := 52) (by decide +kernel) (eZst s0 h)
theorem made_3_52 {X : mX} {d : Nat} {Q : Option mV → mS → Prop} (h : Q none (stK 54 17 119)) : CALL X (d + 57 + 1) (1, 4) MX3_init [vP (some 52)] (stK 53 17 120) Q := by
  have s0 : stK 53 17 120 = stK 53 17 120 := rfl
  have s1 := eNst s0 (50, 4) rfl (by decide +kernel) (by decide +kernel)
  have s2 := eRst s1 52 4 53 (by decide +kernel)
  exact B_X3_init (d := d + 57) (n0 := 53) (by decide +kernel) ⟨eKst s1 (by decide +kernel), eZst s2 h⟩
theorem made_4_54 {X : mX} {d : Nat} {Q : Option mV → mS → Prop} (h : Q none (stK 55 17 118)) : CALL X (d + 57 + 1) (0, 0) MX4_init [vP (some 54)] (stK 55 17 118) Q := by
  have s0 : stK 55 17 118 = stK 55 17 118 := rfl
  exact B_X4_init (d := d + 57) (n0 := 55) (by decide +kernel) (eZst s0 h)
theorem made_9_28 {X : mX} {d : Nat} {Q : Option mV → mS → Prop} (h : Q none (stK 55 17 117)) : CALL X (d + 58 + 1) (26, 168) MX9_init [vP (some 28)] (stK 29 21 143) Q := by
  have s0 : stK 29 21 143 = stK 29 21 143 := rfl
  have s1 := eNst s0 (54, 6) rfl (by decide +kernel) (by decide +kernel)
  have s2 := eRst s1 28 0 29 (by decide +kernel)
  have s3 := eNst s2 (55, 6) rfl (by decide +kernel) (by decide +kernel)
  have s4 := eRst s3 28 1 30 (by decide +kernel)
  have s5 := eNst s4 (6, 0) rfl (by decide +kernel) (by decide +kernel)
  have sq5 : stK 33 20 140 = stK 33 20 140 := rfl
  have s7 := eRst sq5 28 2 31 (by decide +kernel)
  have s8 := eNst s7 (6, 0) rfl (by decide +kernel) (by decide +kernel)
  have sq8 : stK 35 19 138 = stK 35 19 138 := rfl
  have s10 := eRst sq8 28 3 33 (by decide +kernel)
  have s11 := eNst s10 (6, 0) rfl (by decide +kernel) (by decide +kernel)
  have sq11 : stK 37 18 136 = stK 37 18 136 := rfl
  have s13 := eRst sq11 28 4 35 (by decide +kernel)
  have s14 := eIst s13 28 8 (-1) (by decide +kernel)
  have s15 := eNst s14 (3, 0) rfl (by decide +kernel) (by decide +kernel)
  have sq15 : stK 39 17 134 = stK 39 17 134 := rfl
  have s17 := eRst sq15 29 0 37 (by decide +kernel)
  have s18 := eNst s17 (4, 0) rfl (by decide +kernel) (by decide +kernel)
  have sq18 : stK 40 17 133 = stK 40 17 133 := rfl
  have s20 := eRst sq18 30 0 39 (by decide +kernel)
  have s21 := eNst s20 (3, 0) rfl (by decide +kernel) (by decide +kernel)
  have sq21 : stK 42 17 131 = stK 42 17 131 := rfl
  have s23 := eRst sq21 29 1 40 (by decide +kernel)
  have s24 := eNst s23 (4, 0) rfl (by decide +kernel) (by decide +kernel)
  have sq24 : stK 43 17 130 = stK 43 17 130 := rfl
  have s26 := eRst sq24 30 1 42 (by decide +kernel)
  have s27 := eNst s26 (3, 0) rfl (by decide +kernel) (by decide +kernel)
  have sq27 : stK 45 17 128 = stK 45 17 128 := rfl
  have s29 := eRst sq27 29 2 43 (by decide +kernel)
  have s30 := eNst s29 (4, 0) rfl (by decide +kernel) (by decide +kernel)
  have sq30 : stK 46 17 127 = stK 46 17 127 := rfl
  have s32 := eRst sq30 30 2 45 (by decide +kernel)
  have s33 := eNst s32 (3, 0) rfl (by decide +kernel) (by decide +kernel)
  have sq33 : stK 48 17 125 = stK 48 17 125 := rfl
  have s35 := eRst sq33 29 3 46 (by decide +kernel)
  have s36 := eNst s35 (4, 0) rfl (by decide +kernel) (by decide +kernel)
  have sq36 : stK 49 17 124 = stK 49 17 124 := rfl
  have s38 := eRst sq36 30 3 48 (by decide +kernel)
  have s39 := eNst s38 (3, 0) rfl (by decide +kernel) (by decide +kernel)
  have sq39 : stK 51 17 122 = stK 51 17 122 := rfl
  have s41 := eRst sq39 29 4 49 (by decide +kernel)
  have s42 := eNst s41 (4, 0) rfl (by decide +kernel) (by decide +kernel)
  have sq42 : stK 52 17 121 = stK 52 17 121 := rfl
  have s44 := eRst sq42 30 4 51 (by decide +kernel)
  have s45 := eNst s44 (3, 0) rfl (by decide +kernel) (by decide +kernel)
  have sq45 : stK 54 17 119 = stK 54 17 119 := rfl
  have s47 := eRst sq45 29 5 52 (by decide +kernel)
  have s48 := eNst s47 (4, 0) rfl (by decide +kernel) (by decide +kernel)
  have sq48 : stK 55 17 118 = stK 55 17 118 := rfl
  have s50 := eRst sq48 30 5 54 (by decide +kernel)
  exact B_X9_init (d := d + 58) (n0 := 29) (by decide +kernel) ⟨eKst s1 (by decide +kernel), eKst s3 (by decide +kernel), CALL.st s5 (made_6_31 (d := d) ⟨rfl, by decide +kernel, eKst sq5 (by decide +kernel), CALL.st s8 (made_6_33 (d := d) ⟨rfl, by decide +kernel, eKst sq8 (by decide +kernel), CALL.st s11 (made_6_35 (d := d) ⟨rfl, by decide +kernel, eKst sq11 (by decide +kernel), eKst s13 (by decide +kernel), eKst s14 (by decide +kernel), CALL.st s15 (made_3_37 (d := d) ⟨rfl, by decide +kernel, 29, eFst s14 (by decide +kernel), ⟨6, eKst sq15 (by decide +kernel), by decide, by decide, by decide⟩, eKst sq15 (by decide +kernel), eKst s17 (by decide +kernel), CALL.st s18 (made_4_39 (d := d) ⟨rfl, by decide +kernel, 30, eFst s17 (by decide +kernel), ⟨6, eKst sq18 (by decide +kernel), by decide, by decide, by decide⟩, eKst sq18 (by decide +kernel), eKst s20 (by decide +kernel), CALL.st s21 (made_3_40 (d := d) ⟨rfl, by decide +kernel, 29, eFst s20 (by decide +kernel), ⟨6, eKst sq21 (by decide +kernel), by decide, by decide, by decide⟩, eKst sq21 (by decide +kernel), eKst s23 (by decide +kernel), CALL.st s24 (made_4_42 (d := d) ⟨rfl, by decide +kernel, 30, eFst s23 (by decide +kernel), ⟨6, eKst sq24 (by decide +kernel), by decide, by decide, by decide⟩, eKst sq24 (by decide +kernel), eKst s26 (by decide +kernel), CALL.st s27 (made_3_43 (d := d) ⟨rfl, by decide +kernel, 29, eFst s26 (by decide +kernel), ⟨6, eKst sq27 (by decide +kernel), by decide, by decide, by decide⟩, eKst sq27 (by decide +kernel), eKst s29 (by decide +kernel), CALL.st s30 (made_4_45 (d := d) ⟨rfl, by decide +kernel, 30, eFst s29 (by decide +kernel), ⟨6, eKst sq30 (by decide +kernel), by decide, by decide, by decide⟩, eKst sq30 (by decide +kernel), eKst s32 (by decide +kernel), CALL.st s33 (made_3_46 (d := d) ⟨rfl, by decide +kernel, 29, eFst s32 (by decide +kernel), ⟨6, eKst sq33 (by decide +kernel), by decide, by decide, by decide⟩, eKst sq33 (by decide +kernel), eKst s35 (by decide +kernel), CALL.st s36 (made_4_48 (d := d) ⟨rfl, by decide +kernel, 30, eFst s35 (by decide +kernel), ⟨6, eKst sq36 (by decide +kernel), by decide, by decide, by decide⟩, eKst sq36 (by decide +kernel), eKst s38 (by decide +kernel), CALL.st s39 (made_3_49 (d := d) ⟨rfl, by decide +kernel, 29, eFst s38 (by decide +kernel), ⟨6, eKst sq39 (by decide +kernel), by decide, by decide, by decide⟩, eKst sq39 (by decide +kernel), eKst s41 (by decide +kernel), CALL.st s42 (made_4_51 (d := d) ⟨rfl, by decide +kernel, 30, eFst s41 (by decide +kernel), ⟨6, eKst sq42 (by decide +kernel), by decide, by decide, by decide⟩, eKst sq42 (by decide +kernel), eKst s44 (by decide +kernel), CALL.st s45 (made_3_52 (d := d) ⟨rfl, by decide +kernel, 29, eFst s44 (by decide +kernel), ⟨6, eKst sq45 (by decide +kernel), by decide, by decide, by decide⟩, eKst sq45 (by decide +kernel), eKst s47 (by decide +kernel), CALL.st s48 (made_4_54 (d := d) ⟨rfl, by decide +kernel, 30, eFst s47 (by decide +kernel), ⟨6, eKst sq48 (by decide +kernel), by decide, by decide, by decide⟩, eKst sq48 (by decide +kernel), eZst s50 h⟩)⟩)⟩)⟩)⟩)⟩)⟩)⟩)⟩)⟩)⟩)⟩)⟩)⟩)⟩)⟩
theorem made_6_58 {X : mX} {d : Nat} {Q : Option mV → mS → Prop} (h : Q none (stK 60 16 113)) : CALL X (d + 57 + 1) (1, 15) MX6_init [vP (some 58), vI 5] (stK 59 17 114) Q := by
  have s0 : stK 59 17 114 = stK 59 17 114 := rfl
  have s1 := eIst s0 58 1 (5) (by decide +kernel)
  have s2 := eNst s1 (50, 15) rfl (by decide +kernel) (by decide +kernel)
  have s3 := eRst s2 58 0 59 (by decide +kernel)
  exact made_rows (d := d + 57) (x1 := 5) (n0 := 59) (by decide +kernel) ⟨⟨by decide, by decide⟩, eKst s0 (by decide +kernel), eZst s3 h⟩
theorem made_6_60 {X : mX} {d : Nat} {Q : Option mV → mS → Prop} (h : Q none (stK 62 15 111)) : CALL X (d + 57 + 1) (1, 30) MX6_init [vP (some 60), vI 10] (stK 61 16 112) Q := by
  have s0 : stK 61 16 112 = stK 61 16 112 := rfl
  have s1 := eIst s0 60 1 (10) (by decide +kernel)
  have s2 := eNst s1 (50, 30) rfl (by decide +kernel) (by decide +kernel)
  have s3 := eRst s2 60 0 61 (by decide +kernel)
  exact made_rows (d := d + 57) (x1 := 10) (n0 := 61) (by decide +kernel) ⟨⟨by decide, by decide⟩, eKst s0 (by decide +kernel), eZst s3 h⟩
theorem made_6_62 {X : mX} {d : Nat} {Q : Option mV → mS → Prop} (h : Q none (stK 64 14 109)) : CALL X (d + 57 + 1) (1, 24) MX6_init [vP (some 62), vI 8] (stK 63 15 110) Q := by
  have s0 : stK 63 15 110 = stK 63 15 110 := rfl
  have s1 := eIst s0 62 1 (8) (by decide +kernel)
  have s2 := eNst s1 (50, 24) rfl (by decide +kernel) (by decide +kernel)
  have s3 := eRst s2 62 0 63 (by decide +kernel)
  exact made_rows (d := d + 57) (x1 := 8) (n0 := 63) (by decide +kernel) ⟨⟨by decide, by decide⟩, eKst s0 (by decide +kernel), eZst s3 h⟩
theorem made_3_64 {X : mX} {d : Nat} {Q : Option mV → mS → Prop} (h : Q none (stK 66 13 107)) : CALL X (d + 57 + 1) (1, 4) MX3_init [vP (some 64)] (stK 65 13 108) Q := by
  have s0 : stK 65 13 108 = stK 65 13 108 := rfl
  have s1 := eNst s0 (50, 4) rfl (by decide +kernel) (by decide +kernel)
  have s2 := eRst s1 64 4 65 (by decide +kernel)
  exact B_X3_init (d := d + 57) (n0 := 65) (by decide +kernel) ⟨eKst s1 (by decide +kernel), eZst s2 h⟩
theorem made_4_66 {X : mX} {d : Nat} {Q : Option mV → mS → Prop} (h : Q none (stK 67 13 106)) : CALL X (d + 57 + 1) (0, 0) MX4_init [vP (some 66)] (stK 67 13 106) Q := by
  have s0 : stK 67 13 106 = stK 67 13 106 := rfl
  exact B_X4_init (d := d + 57) (n0 := 67) (by decide +kernel) (eZst s0 h)
theorem made_3_67 {X : mX} {d : Nat} {Q : Option mV → mS → Prop} (h : Q none (stK 69 13 104)) : CALL X (d + 57 + 1) (1, 4) MX3_init [vP (some 67)] (stK 68 13 105) Q := by
  have s0 : stK 68 13 105 = stK 68 13 105 := rfl
  have s1 := eNst s0 (50, 4) rfl (by decide +kernel) (by decide +kernel)
  have s2 := eRst s1 67 4 68 (by decide +kernel)
  exact B_X3_init (d := d + 57) (n0 := 68) (by decide +kernel) ⟨eKst s1 (by decide +kernel), eZst s2 h⟩
theorem made_4_69 {X : mX} {d : Nat} {Q : Option mV → mS → Prop} (h : Q none (stK 70 13 103)) : CALL X (d + 57 + 1) (0, 0) MX4_init [vP (some 69)] (stK 70 13 103) Q := by
  have s0 : stK 70 13 103 = stK 70 13 103 := rfl
  exact B_X4_init (d := d + 57) (n0 := 70) (by decide +kernel) (eZst s0 h)
theorem made_3_70 {X : mX} {d : Nat} {Q : Option mV → mS → Prop} (h : Q none (stK 72 13 101)) : CALL X (d + 57 + 1) (1, 4) MX3_init [vP (some 70)] (stK 71 13 102) Q := by
  have s0 : stK 71 13 102 = stK 71 13 102 := rfl
  have s1 := eNst s0 (50, 4) rfl (by decide +kernel) (by decide +kernel)
  have s2 := eRst s1 70 4 71 (by decide +kernel)
  exact B_X3_init (d := d + 57) (n0 := 71) (by decide +kernel) ⟨eKst s1 (by decide +kernel), eZst s2 h⟩
theorem made_4_72 {X : mX} {d : Nat} {Q : Option mV → mS → Prop} (h : Q none (stK 73 13 100)) : CALL X (d + 57 + 1) (0, 0) MX4_init [vP (some 72)] (stK 73 13 100) Q := by
  have s0 : stK 73 13 100 = stK 73 13 100 := rfl
  exact B_X4_init (d := d + 57) (n0 := 73) (by decide +kernel) (eZst s0 h)
theorem made_3_73 {X : mX} {d : Nat} {Q : Option mV → mS → Prop} (h : Q none (stK 75 13 98)) : CALL X (d + 57 + 1) (1, 4) MX3_init [vP (some 73)] (stK 74 13 99) Q := by
  have s0 : stK 74 13 99 = stK 74 13 99 := rfl
  have s1 := eNst s0 (50, 4) rfl (by decide +kernel) (by decide +kernel)
  have s2 := eRst s1 73 4 74 (by decide +kernel)
  exact B_X3_init (d := d + 57) (n0 := 74) (by decide +kernel) ⟨eKst s1 (by decide +kernel), eZst s2 h⟩
theorem made_4_75 {X : mX} {d : Nat} {Q : Option mV → mS → Prop} (h : Q none (stK 76 13 97)) : CALL X (d + 57 + 1) (0, 0) MX4_init [vP (some 75)] (stK 76 13 97) Q := by
  have s0 : stK 76 13 97 = stK 76 13 97 := rfl
  exact B_X4_init (d := d + 57) (n0 := 76) (by decide +kernel) (eZst s0 h)
theorem made_3_76 {X : mX} {d : Nat} {Q : Option mV → mS → Prop} (h : Q none (stK 78 13 95)) : CALL X (d + 57 + 1) (1, 4) MX3_init [vP (some 76)] (stK 77 13 96) Q := by
  have s0 : stK 77 13 96 = stK 77 13 96 := rfl
  have s1 := eNst s0 (50, 4) rfl (by decide +kernel) (by decide +kernel)
  have s2 := eRst s1 76 4 77 (by decide +kernel)
  exact B_X3_init (d := d + 57) (n0 := 77) (by decide +kernel) ⟨eKst s1 (by decide +kernel), eZst s2 h⟩
theorem made_4_78 {X : mX} {d : Nat} {Q : Option mV → mS → Prop} (h : Q none (stK 79 13 94)) : CALL X (d + 57 + 1) (0, 0) MX4_init [vP (some 78)] (stK 79 13 94) Q := by
  have s0 : stK 79 13 94 = stK 79 13 94 := rfl
  exact B_X4_init (d := d + 57) (n0 := 79) (by decide +kernel) (eZst s0 h)
theorem made_3_79 {X : mX} {d : Nat} {Q : Option mV → mS → Prop} (h : Q none (stK 81 13 92)) : CALL X (d + 57 + 1) (1, 4) MX3_init [vP (some 79)] (stK 80 13 93) Q := by
  have s0 : stK 80 13 93 = stK 80 13 93 := rfl
  have s1 := eNst s0 (50, 4) rfl (by decide +kernel) (by decide +kernel)
  have s2 := eRst s1 79 4 80 (by decide +kernel)
  exact B_X3_init (d := d + 57) (n0 := 80) (by decide +kernel) ⟨eKst s1 (by decide +kernel), eZst s2 h⟩
theorem made_4_81 {X : mX} {d : Nat} {Q : Option mV → mS → Prop} (h : Q none (stK 82 13 91)) : CALL X (d + 57 + 1) (0, 0) MX4_init [vP (some 81)] (stK 82 13 91) Q := by
  have s0 : stK 82 13 91 = stK 82 13 91 := rfl
  exact B_X4_init (d := d + 57) (n0 := 82) (by decide +kernel) (eZst s0 h)
theorem made_9_55 {X : mX} {d : Nat} {Q : Option mV → mS → Prop} (h : Q none (stK 82 13 90)) : CALL X (d + 58 + 1) (26, 168) MX9_init [vP (some 55)] (stK 56 17 116) Q := by
  have s0 : stK 56 17 116 = stK 56 17 116 := rfl
  have s1 := eNst s0 (54, 6) rfl (by decide +kernel) (by decide +kernel)
  have s2 := eRst s1 55 0 56 (by decide +kernel)
  have s3 := eNst s2 (55, 6) rfl (by decide +kernel) (by decide +kernel)
  have s4 := eRst s3 55 1 57 (by decide +kernel)
  have s5 := eNst s4 (6, 0) rfl (by decide +kernel) (by decide +kernel)
  have sq5 : stK 60 16 113 = stK 60 16 113 := rfl
  have s7 := eRst sq5 55 2 58 (by decide +kernel)
  have s8 := eNst s7 (6, 0) rfl (by decide +kernel) (by decide +kernel)
  have sq8 : stK 62 15 111 = stK 62 15 111 := rfl
  have s10 := eRst sq8 55 3 60 (by decide +kernel)
  have s11 := eNst s10 (6, 0) rfl (by decide +kernel) (by decide +kernel)
  have sq11 : stK 64 14 109 = stK 64 14 109 := rfl
  have s13 := eRst sq11 55 4 62 (by decide +kernel)
  have s14 := eIst s13 55 8 (-1) (by decide +kernel)
  have s15 := eNst s14 (3, 0) rfl (by decide +kernel) (by decide +kernel)
  have sq15 : stK 66 13 107 = stK 66 13 107 := rfl
  have s17 := eRst sq15 56 0 64 (by decide +kernel)
  have s18 := eNst s17 (4, 0) rfl (by decide +kernel) (by decide +kernel)
  have sq18 : stK 67 13 106 = stK 67 13 106 := rfl
  have s20 := eRst sq18 57 0 66 (by decide +kernel)
  have s21 := eNst s20 (3, 0) rfl (by decide +kernel) (by decide +kernel)
  have sq21 : stK 69 13 104 = stK 69 13 104 := rfl
  have s23 := eRst sq21 56 1 67 (by decide +kernel)
  have s24 := eNst s23 (4, 0) rfl (by decide +kernel) (by decide +kernel)
  have sq24 : stK 70 13 103 = stK 70 13 103 := rfl
  have s26 := eRst sq24 57 1 69 (by decide +kernel)
  have s27 := eNst s26 (3, 0) rfl (by decide +kernel) (by decide +kernel)
  have sq27 : stK 72 13 101 = stK 72 13 101 := rfl
  have s29 := eRst sq27 56 2 70 (by decide +kernel)
  have s30 := eNst s29 (4, 0) rfl (by decide +kernel) (by decide +kernel)
  have sq30 : stK 73 13 100 = stK 73 13 100 := rfl
  have s32 := eRst sq30 57 2 72 (by decide +kernel)
  have s33 := eNst s32 (3, 0) rfl (by decide +kernel) (by decide +kernel)
  have sq33 : stK 75 13 98 = stK 75 13 98 := rfl
  have s35 := eRst sq33 56 3 73 (by decide +kernel)
  have s36 := eNst s35 (4, 0) rfl (by decide +kernel) (by decide +kernel)
  have sq36 : stK 76 13 97 = stK 76 13 97 := rfl
  have s38 := eRst sq36 57 3 75 (by decide +kernel)
  have s39 := eNst s38 (3, 0) rfl (by decide +kernel) (by decide +kernel)
  have sq39 : stK 78 13 95 = stK 78 13 95 := rfl
  have s41 := eRst sq39 56 4 76 (by decide +kernel)
  have s42 := eNst s41 (4, 0) rfl (by decide +kernel) (by decide +kernel)
  have sq42 : stK 79 13 94 = stK 79 13 94 := rfl
  have s44 := eRst sq42 57 4 78 (by decide +kernel)
  have s45 := eNst s44 (3, 0) rfl (by decide +kernel) (by decide +kernel)
  have sq45 : stK 81 13 92 = stK 81 13 92 := rfl
  have s47 := eRst sq45 56 5 79 (by decide +kernel)
  have s48 := eNst s47 (4, 0) rfl (by decide +kernel) (by decide +kernel)
  have sq48 : stK 82 13 91 = stK 82 13 91 := rfl
  have s50 := eRst sq48 57 5 81 (by decide +kernel)
  exact B_X9_init (d := d + 58) (n0 := 56) (by decide +kernel) ⟨eKst s1 (by decide +kernel), eKst s3 (by decide +kernel), CALL.st s5 (made_6_58 (d := d) ⟨rfl, by decide +kernel, eKst sq5 (by decide +kernel), CALL.st s8 (made_6_60 (d := d) ⟨rfl, by decide +kernel, eKst sq8 (by decide +kernel), CALL.st s11 (made_6_62 (d := d) ⟨rfl, by decide +kernel, eKst sq11 (by decide +kernel), eKst s13 (by decide +kernel), eKst s14 (by decide +kernel), CALL.st s15 (made_3_64 (d := d) ⟨rfl, by decide +kernel, 56, eFst s14 (by decide +kernel), ⟨6, eKst sq15 (by decide +kernel), by decide, by decide, by decide⟩, eKst sq15 (by decide +kernel), eKst s17 (by decide +kernel), CALL.st s18 (made_4_66 (d := d) ⟨rfl, by decide +kernel, 57, eFst s17 (by decide +kernel), ⟨6, eKst sq18 (by decide +kernel), by decide, by decide, by decide⟩, eKst sq18 (by decide +kernel), eKst s20 (by decide +kernel), CALL.st s21 (made_3_67 (d := d) ⟨rfl, by decide +kernel, 56, eFst s20 (by decide +kernel), ⟨6, eKst sq21 (by decide +kernel), by decide, by decide, by decide⟩, eKst sq21 (by decide +kernel), eKst s23 (by decide +kernel), CALL.st s24 (made_4_69 (d := d) ⟨rfl, by decide +kernel, 57, eFst s23 (by decide +kernel), ⟨6, eKst sq24 (by decide +kernel), by decide, by decide, by decide⟩, eKst sq24 (by decide +kernel), eKst s26 (by decide +kernel), CALL.st s27 (made_3_70 (d := d) ⟨rfl, by decide +kernel, 56, eFst s26 (by decide +kernel), ⟨6, eKst sq27 (by decide +kernel), by decide, by decide, by decide⟩, eKst sq27 (by decide +kernel), eKst s29 (by decide +kernel), CALL.st s30 (made_4_72 (d := d) ⟨rfl, by decide +kernel, 57, eFst s29 (by decide +kernel), ⟨6, eKst sq30 (by decide +kernel), by decide, by decide, by decide⟩, eKst sq30 (by decide +kernel), eKst s32 (by decide +kernel), CALL.st s33 (made_3_73 (d := d) ⟨rfl, by decide +kernel, 56, eFst s32 (by decide +kernel), ⟨6, eKst sq33 (by decide +kernel), by decide, by decide, by decide⟩, eKst sq33 (by decide +kernel), eKst s35 (by decide +kernel), CALL.st s36 (made_4_75 (d := d) ⟨rfl, by decide +kernel, 57, eFst s35 (by decide +kernel), ⟨6, eKst sq36 (by decide +kernel), by decide, by decide, by decide⟩, eKst sq36 (by decide +kernel), eKst s38 (by decide +kernel), CALL.st s39 (made_3_76 (d := d) ⟨rfl, by decide +kernel, 56, eFst s38 (by decide +kernel), ⟨6, eKst sq39 (by decide +kernel), by decide, by decide, by decide⟩, eKst sq39 (by decide +kernel), eKst s41 (by decide +kernel), CALL.st s42 (made_4_78 (d := d) ⟨rfl, by decide +kernel, 57, eFst s41 (by decide +kernel), ⟨6, eKst sq42 (by decide +kernel), by decide, by decide, by decide⟩, eKst sq42 (by decide +kernel), eKst s44 (by decide +kernel), CALL.st s45 (made_3_79 (d := d) ⟨rfl, by decide +kernel, 56, eFst s44 (by decide +kernel), ⟨6, eKst sq45 (by decide +kernel), by decide, by decide, by decide⟩, eKst sq45 (by decide +kernel), eKst s47 (by decide +kernel), CALL.st s48 (made_4_81 (d := d) ⟨rfl, by decide +kernel, 57, eFst s47 (by decide +kernel), ⟨6, eKst sq48 (by decide +kernel), by decide, by decide, by decide⟩, eKst sq48 (by decide +kernel), eZst s50 h⟩)⟩)⟩)⟩)⟩)⟩)⟩)⟩)⟩)⟩)⟩)⟩)⟩)⟩)⟩)⟩
theorem made_1_86 {X : mX} {d : Nat} {Q : Option mV → mS → Prop} (h : Q none (stK 91 13 83)) : CALL X (d + 56 + 1) (4, 130) MX1_init [vP (some 86)] (stK 87 13 87) Q := by
  have s0 : stK 87 13 87 = stK 87 13 87 := rfl
  have s1 := eNst s0 (50, 10) rfl (by decide +kernel) (by decide +kernel)
  have s2 := eRst s1 86 0 87 (by decide +kernel)
  have s3 := eNst s2 (50, 10) rfl (by decide +kernel) (by decide +kernel)
  have s4 := eRst s3 86 1 88 (by decide +kernel)
  have s5 := eNst s4 (50, 10) rfl (by decide +kernel) (by decide +kernel)
  have s6 := eRst s5 86 2 89 (by decide +kernel)
  have s7 := eNst s6 (50, 100) rfl (by decide +kernel) (by decide +kernel)
  have s8 := eRst s7 86 3 90 (by decide +kernel)
  exact B_X1_init (d := d + 56) (n0 := 87) (by decide +kernel) ⟨eKst s1 (by decide +kernel), eKst s3 (by decide +kernel), eKst s5 (by decide +kernel), eKst s7 (by decide +kernel), eZst s8 h⟩
theorem made_1_91 {X : mX} {d : Nat} {Q : Option mV → mS → Prop} (h : Q none (stK 96 13 78)) : CALL X (d + 56 + 1) (4, 130) MX1_init [vP (some 91)] (stK 92 13 82) Q := by
  have s0 : stK 92 13 82 = stK 92 13 82 := rfl
  have s1 := eNst s0 (50, 10) rfl (by decide +kernel) (by decide +kernel)
  have s2 := eRst s1 91 0 92 (by decide +kernel)
  have s3 := eNst s2 (50, 10) rfl (by decide +kernel) (by decide +kernel)
  have s4 := eRst s3 91 1 93 (by decide +kernel)
  have s5 := eNst s4 (50, 10) rfl (by decide +kernel) (by decide +kernel)
  have s6 := eRst s5 91 2 94 (by decide +kernel)
  have s7 := eNst s6 (50, 100) rfl (by decide +kernel) (by decide +kernel)
  have s8 := eRst s7 91 3 95 (by decide +kernel)
  exact B_X1_init (d := d + 56) (n0 := 92) (by decide +kernel) ⟨eKst s1 (by decide +kernel), eKst s3 (by decide +kernel), eKst s5 (by decide +kernel), eKst s7 (by decide +kernel), eZst s8 h⟩
theorem made_1_96 {X : mX} {d : Nat} {Q : Option mV → mS → Prop} (h : Q none (stK 101 13 73)) : CALL X (d + 56 + 1) (4, 130) MX1_init [vP (some 96)] (stK 97 13 77) Q := by
  have s0 : stK 97 13 77 = stK 97 13 77 := rfl
  have s1 := eNst s0 (50, 10) rfl (by decide +kernel) (by decide +kernel)
  have s2 := eRst s1 96 0 97 (by decide +kernel)
  have s3 := eNst s2 (50, 10) rfl (by decide +kernel) (by decide +kernel)
  have s4 := eRst s3 96 1 98 (by decide +kernel)
  have s5 := eNst s4 (50, 10) rfl (by decide +kernel) (by decide +kernel)
  have s6 := eRst s5 96 2 99 (by decide +kernel)
  have s7 := eNst s6 (50, 100) rfl (by decide +kernel) (by decide +kernel)
  have s8 := eRst s7 96 3 100 (by decide +kernel)
  exact B_X1_init (d := d + 56) (n0 := 97) (by decide +kernel) ⟨eKst s1 (by decide +kernel), eKst s3 (by decide +kernel), eKst s5 (by decide +kernel), eKst s7 (by decide +kernel), eZst s8 h⟩
theorem made_1_101 {X : mX} {d : Nat} {Q : Option mV → mS → Prop} (h : Q none (stK 106 13 68)) : CALL X (d + 56 + 1) (4, 130) MX1_init [vP (some 101)] (stK 102 13 72) Q := by
  have s0 : stK 102 13 72 = stK 102 13 72 := rfl
  have s1 := eNst s0 (50, 10) rfl (by decide +kernel) (by decide +kernel)
  have s2 := eRst s1 101 0 102 (by decide +kernel)
  have s3 := eNst s2 (50, 10) rfl (by decide +kernel) (by decide +kernel)
  have s4 := eRst s3 101 1 103 (by decide +kernel)
  have s5 := eNst s4 (50, 10) rfl (by decide +kernel) (by decide +kernel)
  have s6 := eRst s5 101 2 104 (by decide +kernel)
  have s7 := eNst s6 (50, 100) rfl (by decide +kernel) (by decide +kernel)
  have s8 := eRst s7 101 3 105 (by decide +kernel)
  exact B_X1_init (d := d + 56) (n0 := 102) (by decide +kernel) ⟨eKst s1 (by decide +kernel), eKst s3 (by decide +kernel), eKst s5 (by decide +kernel), eKst s7 (by decide +kernel), eZst s8 h⟩
theorem made_1_106 {X : mX} {d : Nat} {Q : Option mV → mS → Prop} (h : Q none (stK 111 13 63)) : CALL X (d + 56 + 1) (4, 130) MX1_init [vP (some 106)] (stK 107 13 67) Q := by
  have s0 : stK 107 13 67 = stK 107 13 67 := rfl
  have s1 := eNst s0 (50, 10) rfl (by decide +kernel) (by decide +kernel)
  have s2 := eRst s1 106 0 107 (by decide +kernel)
  have s3 := eNst s2 (50, 10) rfl (by decide +kernel) (by decide +kernel)
  have s4 := eRst s3 106 1 108 (by decide +kernel)
  have s5 := eNst s4 (50, 10) rfl (by decide +kernel) (by decide +kernel)
  have s6 := eRst s5 106 2 109 (by decide +kernel)
  have s7 := eNst s6 (50, 100) rfl (by decide +kernel) (by decide +kernel)
  have s8 := eRst s7 106 3 110 (by decide +kernel)
  exact B_X1_init (d := d + 56) (n0 := 107) (by decide +kernel) ⟨eKst s1 (by decide +kernel), eKst s3 (by decide +kernel), eKst s5 (by decide +kernel), eKst s7 (by decide +kernel), eZst s8 h⟩
theorem made_1_111 {X : mX} {d : Nat} {Q : Option mV → mS → Prop} (h : Q none (stK 116 13 58)) : CALL X (d + 56 + 1) (4, 130) MX1_init [vP (some 111)] (stK 112 13 62) Q := by
  have s0 : stK 112 13 62 = stK 112 13 62 := rfl
  have s1 := eNst s0 (50, 10) rfl (by decide +kernel) (by decide +kernel)
  have s2 := eRst s1 111 0 112 (by decide +kernel)
  have s3 := eNst s2 (50, 10) rfl (by decide +kernel) (by decide +kernel)
  have s4 := eRst s3 111 1 113 (by decide +kernel)
  have s5 := eNst s4 (50, 10) rfl (by decide +kernel) (by decide +kernel)
  have s6 := eRst s5 111 2 114 (by decide +kernel)
  have s7 := eNst s6 (50, 100) rfl (by decide +kernel) (by decide +kernel)
  have s8 := eRst s7 111 3 115 (by decide +kernel)
  exact B_X1_init (d := d + 56) (n0 := 112) (by decide +kernel) ⟨eKst s1 (by decide +kernel), eKst s3 (by decide +kernel), eKst s5 (by decide +kernel), eKst s7 (by decide +kernel), eZst s8 h⟩
theorem made_7_83 {X : mX} {d : Nat} {Q : Option mV → mS → Prop} (h : Q none (stK 116 13 57)) : CALL X (d + 57 + 1) (32, 834) MX7_init [vP (some 83)] (stK 84 13 89) Q := by
  have s0 : stK 84 13 89 = stK 84 13 89 := rfl
  have s1 := eNst s0 (56, 6) rfl (by decide +kernel) (by decide +kernel)
  have s2 := eRst s1 83 0 84 (by decide +kernel)
  have s3 := eNst s2 (50, 6) rfl (by decide +kernel) (by decide +kernel)
  have s4 := eRst s3 83 1 85 (by decide +kernel)
  have s5 := eNst s4 (1, 0) rfl (by decide +kernel) (by decide +kernel)
  have sq5 : stK 91 13 83 = stK 91 13 83 := rfl
  have s7 := eRst sq5 84 0 86 (by decide +kernel)
  have s8 := eNst s7 (1, 0) rfl (by decide +kernel) (by decide +kernel)
  have sq8 : stK 96 13 78 = stK 96 13 78 := rfl
  have s10 := eRst sq8 84 1 91 (by decide +kernel)
  have s11 := eNst s10 (1, 0) rfl (by decide +kernel) (by decide +kernel)
  have sq11 : stK 101 13 73 = stK 101 13 73 := rfl
  have s13 := eRst sq11 84 2 96 (by decide +kernel)
  have s14 := eNst s13 (1, 0) rfl (by decide +kernel) (by decide +kernel)
  have sq14 : stK 106 13 68 = stK 106 13 68 := rfl
  have s16 := eRst sq14 84 3 101 (by decide +kernel)
  have s17 := eNst s16 (1, 0) rfl (by decide +kernel) (by decide +kernel)
  have sq17 : stK 111 13 63 = stK 111 13 63 := rfl
  have s19 := eRst sq17 84 4 106 (by decide +kernel)
  have s20 := eNst s19 (1, 0) rfl (by decide +kernel) (by decide +kernel)
  have sq20 : stK 116 13 58 = stK 116 13 58 := rfl
  have s22 := eRst sq20 84 5 111 (by decide +kernel)
  exact B_X7_init (d := d + 57) (n0 := 84) (by decide +kernel) ⟨eKst s1 (by decide +kernel), eKst s3 (by decide +kernel), eKst s4 (by decide +kernel), CALL.st s5 (made_1_86 (d := d) ⟨rfl, by decide +kernel, 84, eFst s4 (by decide +kernel), ⟨6, eKst sq5 (by decide +kernel), by decide, by decide, by decide⟩, eKst sq5 (by decide +kernel), eKst s7 (by decide +kernel), CALL.st s8 (made_1_91 (d := d) ⟨rfl, by decide +kernel, 84, eFst s7 (by decide +kernel), ⟨6, eKst sq8 (by decide +kernel), by decide, by decide, by decide⟩, eKst sq8 (by decide +kernel), eKst s10 (by decide +kernel), CALL.st s11 (made_1_96 (d := d) ⟨rfl, by decide +kernel, 84, eFst s10 (by decide +kernel), ⟨6, eKst sq11 (by decide +kernel), by decide, by decide, by decide⟩, eKst sq11 (by decide +kernel), eKst s13 (by decide +kernel), CALL.st s14 (made_1_101 (d := d) ⟨rfl, by decide +kernel, 84, eFst s13 (by decide +kernel), ⟨6, eKst sq14 (by decide +kernel), by decide, by decide, by decide⟩, eKst sq14 (by decide +kernel), eKst s16 (by decide +kernel), CALL.st s17 (made_1_106 (d := d) ⟨rfl, by decide +kernel, 84, eFst s16 (by decide +kernel), ⟨6, eKst sq17 (by decide +kernel), by decide, by decide, by decide⟩, eKst sq17 (by decide +kernel), eKst s19 (by decide +kernel), CALL.st s20 (made_1_111 (d := d) ⟨rfl, by decide +kernel, 84, eFst s19 (by decide +kernel), ⟨6, eKst sq20 (by decide +kernel), by decide, by decide, by decide⟩, eKst sq20 (by decide +kernel), eZst s22 h⟩)⟩)⟩)⟩)⟩)⟩)⟩
theorem made_2_82 {X : mX} {d : Nat} {Q : Option mV → mS → Prop} (h : Q none (stK 121 13 51)) : CALL X (d + 58 + 1) (38, 1314) MX2_init [vP (some 82)] (stK 83 13 89) Q := by
  have s0 : stK 83 13 89 = stK 83 13 89 := rfl
  have s1 := eNst s0 (7, 0) rfl (by decide +kernel) (by decide +kernel)
  have sq1 : stK 116 13 57 = stK 116 13 57 := rfl
  have s3 := eRst sq1 82 0 83 (by decide +kernel)
  have s4 := eNst s3 (50, 6) rfl (by decide +kernel) (by decide +kernel)
  have s5 := eRst s4 82 1 116 (by decide +kernel)
  have s6 := eNst s5 (50, 448) rfl (by decide +kernel) (by decide +kernel)
  have s7 := eRst s6 82 2 117 (by decide +kernel)
  have s8 := eNst s7 (50, 13) rfl (by decide +kernel) (by decide +kernel)
  have s9 := eRst s8 82 3 118 (by decide +kernel)
  have s10 := eNst s9 (50, 5) rfl (by decide +kernel) (by decide +kernel)
  have s11 := eRst s10 82 4 119 (by decide +kernel)
  have s12 := eNst s11 (50, 5) rfl (by decide +kernel) (by decide +kernel)
  have s13 := eRst s12 82 5 120 (by decide +kernel)
  exact B_X2_init (d := d + 58) (n0 := 83) (by decide +kernel) (CALL.st s1 (made_7_83 (d := d) ⟨rfl, by decide +kernel, eKst sq1 (by decide +kernel), eKst s4 (by decide +kernel), eKst s6 (by decide +kernel), eKst s8 (by decide +kernel), eKst s10 (by decide +kernel), eKst s12 (by decide +kernel), eZst s13 h⟩))
theorem made_5_121 {X : mX} {d : Nat} {Q : Option mV → mS → Prop} (h : Q none (stK 123 13 48)) : CALL X (d + 58 + 1) (1, 100) MX5_init [vP (some 121)] (stK 122 13 49) Q := by
  have s0 : stK 122 13 49 = stK 122 13 49 := rfl
  have s1 := eNst s0 (51, 100) rfl (by decide +kernel) (by decide +kernel)
  have s2 := eRst s1 121 0 122 (by decide +kernel)
  exact B_X5_init (d := d + 58) (n0 := 122) (by decide +kernel) ⟨eKst s1 (by decide +kernel), eZst s2 h⟩
theorem made_0_123 {X : mX} {d : Nat} {Q : Option mV → mS → Prop} (h : Q none (stK 125 13 46)) : CALL X (d + 58 + 1) (1, 20) MX0_init [vP (some 123)] (stK 124 13 47) Q := by
  have s0 : stK 124 13 47 = stK 124 13 47 := rfl
  have s1 := eNst s0 (50, 20) rfl (by decide +kernel) (by decide +kernel)
  have s2 := eRst s1 123 0 124 (by decide +kernel)
  exact B_X0_init (d := d + 58) (n0 := 124) (by decide +kernel) ⟨eKst s1 (by decide +kernel), eZst s2 h⟩
theorem made_8_126 {X : mX} {d : Nat} {Q : Option mV → mS → Prop} (h : Q none (stK 128 12 43)) : CALL X (d + 58 + 1) (1, 60) MX8_init [vP (some 126)] (stK 127 13 44) Q := by
  have s0 : stK 127 13 44 = stK 127 13 44 := rfl
  have s1 := eNst s0 (53, 60) rfl (by decide +kernel) (by decide +kernel)
  have s2 := eRst s1 126 0 127 (by decide +kernel)
  have s3 := eIst s2 126 1 (-1) (by decide +kernel)
  exact B_X8_init (d := d + 58) (n0 := 127) (by decide +kernel) ⟨eKst s1 (by decide +kernel), eKst s2 (by decide +kernel), eZst s3 h⟩
theorem made_8_128 {X : mX} {d : Nat} {Q : Option mV → mS → Prop} (h : Q none (stK 130 11 41)) : CALL X (d + 58 + 1) (1, 60) MX8_init [vP (some 128)] (stK 129 12 42) Q := by
  have s0 : stK 129 12 42 = stK 129 12 42 := rfl
  have s1 := eNst s0 (53, 60) rfl (by decide +kernel) (by decide +kernel)
  have s2 := eRst s1 128 0 129 (by decide +kernel)
  have s3 := eIst s2 128 1 (-1) (by decide +kernel)
  exact B_X8_init (d := d + 58) (n0 := 129) (by decide +kernel) ⟨eKst s1 (by decide +kernel), eKst s2 (by decide +kernel), eZst s3 h⟩
theorem made_8_130 {X : mX} {d : Nat} {Q : Option mV → mS → Prop} (h : Q none (stK 132 10 39)) : CALL X (d + 58 + 1) (1, 60) MX8_init [vP (some 130)] (stK 131 11 40) Q := by
  have s0 : stK 131 11 40 = stK 131 11 40 := rfl
  have s1 := eNst s0 (53, 60) rfl (by decide +kernel) (by decide +kernel)
  have s2 := eRst s1 130 0 131 (by decide +kernel)
  have s3 := eIst s2 130 1 (-1) (by decide +kernel)
  exact B_X8_init (d := d + 58) (n0 := 131) (by decide +kernel) ⟨eKst s1 (by decide +kernel), eKst s2 (by decide +kernel), eZst s3 h⟩
theorem made_8_132 {X : mX} {d : Nat} {Q : Option mV → mS → Prop} (h : Q none (stK 134 9 37)) : CALL X (d + 58 + 1) (1, 60) MX8_init [vP (some 132)] (stK 133 10 38) Q := by
  have s0 : stK 133 10 38 = stK 133 10 38 := rfl
  have s1 := eNst s0 (53, 60) rfl (by decide +kernel) (by decide +kernel)
  have s2 := eRst s1 132 0 133 (by decide +kernel)
  have s3 := eIst s2 132 1 (-1) (by decide +kernel)
  exact B_X8_init (d := d + 58) (n0 := 133) (by decide +kernel) ⟨eKst s1 (by decide +kernel), eKst s2 (by decide +kernel), eZst s3 h⟩
theorem made_8_134 {X : mX} {d : Nat} {Q : Option mV → mS → Prop} (h : Q none (stK 136 8 35)) : CALL X (d + 58 + 1) (1, 60) MX8_init [vP (some 134)] (stK 135 9 36) Q := by
  have s0 : stK 135 9 36 = stK 135 9 36 := rfl
  have s1 := eNst s0 (53, 60) rfl (by decide +kernel) (by decide +kernel)
  have s2 := eRst s1 134 0 135 (by decide +kernel)
  have s3 := eIst s2 134 1 (-1) (by decide +kernel)
  exact B_X8_init (d := d + 58) (n0 := 135) (by decide +kernel) ⟨eKst s1 (by decide +kernel), eKst s2 (by decide +kernel), eZst s3 h⟩
theorem made_8_136 {X : mX} {d : Nat} {Q : Option mV → mS → Prop} (h : Q none (stK 138 7 33)) : CALL X (d + 58 + 1) (1, 60) MX8_init [vP (some 136)] (stK 137 8 34) Q := by
  have s0 : stK 137 8 34 = stK 137 8 34 := rfl
  have s1 := eNst s0 (53, 60) rfl (by decide +kernel) (by decide +kernel)
  have s2 := eRst s1 136 0 137 (by decide +kernel)
  have s3 := eIst s2 136 1 (-1) (by decide +kernel)
  exact B_X8_init (d := d + 58) (n0 := 137) (by decide +kernel) ⟨eKst s1 (by decide +kernel), eKst s2 (by decide +kernel), eZst s3 h⟩
theorem made_10_0 {X : mX} {d : Nat} {Q : Option mV → mS → Prop} (h : Q none (stK 138 7 32)) : CALL X (d + 59 + 1) (137, 2366) MX10_init [vP (some 0)] (stK 1 25 170) Q := by
  have s0 : stK 1 25 170 = stK 1 25 170 := rfl
  have s1 := eNst s0 (9, 0) rfl (by decide +kernel) (by decide +kernel)
  have sq1 : stK 28 21 144 = stK 28 21 144 := rfl
  have s3 := eRst sq1 0 0 1 (by decide +kernel)
  have s4 := eNst s3 (9, 0) rfl (by decide +kernel) (by decide +kernel)
  have sq4 : stK 55 17 117 = stK 55 17 117 := rfl
  have s6 := eRst sq4 0 1 28 (by decide +kernel)
  have s7 := eNst s6 (9, 0) rfl (by decide +kernel) (by decide +kernel)
  have sq7 : stK 82 13 90 = stK 82 13 90 := rfl
  have s9 := eRst sq7 0 2 55 (by decide +kernel)
  have s10 := eNst s9 (2, 0) rfl (by decide +kernel) (by decide +kernel)
  have sq10 : stK 121 13 51 = stK 121 13 51 := rfl
  have s12 := eRst sq10 0 3 82 (by decide +kernel)
  have s13 := eRst2 s12 0 4 (eFst (a := 82) (k := 0) (b := 83) s12 (by decide +kernel)) (by decide +kernel)
  have s14 := eNst s13 (5, 0) rfl (by decide +kernel) (by decide +kernel)
  have sq14 : stK 123 13 48 = stK 123 13 48 := rfl
  have s16 := eRst sq14 0 5 121 (by decide +kernel)
  have s17 := eNst s16 (0, 0) rfl (by decide +kernel) (by decide +kernel)
  have sq17 : stK 125 13 46 = stK 125 13 46 := rfl
  have s19 := eRst sq17 0 6 123 (by decide +kernel)
  have s20 := eNst s19 (57, 6) rfl (by decide +kernel) (by decide +kernel)
  have s21 := eRst s20 0 7 125 (by decide +kernel)
  have s22 := eNst s21 (8, 0) rfl (by decide +kernel) (by decide +kernel)
  have sq22 : stK 128 12 43 = stK 128 12 43 := rfl
  have s24 := eRst sq22 125 0 126 (by decide +kernel)
  have s25 := eNst s24 (8, 0) rfl (by decide +kernel) (by decide +kernel)
  have sq25 : stK 130 11 41 = stK 130 11 41 := rfl
  have s27 := eRst sq25 125 1 128 (by decide +kernel)
  have s28 := eNst s27 (8, 0) rfl (by decide +kernel) (by decide +kernel)
  have sq28 : stK 132 10 39 = stK 132 10 39 := rfl
  have s30 := eRst sq28 125 2 130 (by decide +kernel)
  have s31 := eNst s30 (8, 0) rfl (by decide +kernel) (by decide +kernel)
  have sq31 : stK 134 9 37 = stK 134 9 37 := rfl
  have s33 := eRst sq31 125 3 132 (by decide +kernel)
  have s34 := eNst s33 (8, 0) rfl (by decide +kernel) (by decide +kernel)
  have sq34 : stK 136 8 35 = stK 136 8 35 := rfl
  have s36 := eRst sq34 125 4 134 (by decide +kernel)
  have s37 := eNst s36 (8, 0) rfl (by decide +kernel) (by decide +kernel)
  have sq37 : stK 138 7 33 = stK 138 7 33 := rfl
  have s39 := eRst sq37 125 5 136 (by decide +kernel)
  exact B_X10_init (d := d + 59) (n0 := 1) (by decide +kernel) (CALL.st s1 (made_9_1 (d := d) ⟨rfl, by decide +kernel, eKst sq1 (by decide +kernel), CALL.st s4 (made_9_28 (d := d) ⟨rfl, by decide +kernel, eKst sq4 (by decide +kernel), CALL.st s7 (made_9_55 (d := d) ⟨rfl, by decide +kernel, eKst sq7 (by decide +kernel), CALL.st s10 (made_2_82 (d := d) ⟨rfl, by decide +kernel, eKst sq10 (by decide +kernel), eKst s12 (by decide +kernel), 82, eFst s12 (by decide +kernel), eKst s12 (by decide +kernel), eKst s12 (by decide +kernel), CALL.st s14 (made_5_121 (d := d) ⟨rfl, by decide +kernel, eKst sq14 (by decide +kernel), CALL.st s17 (made_0_123 (d := d) ⟨rfl, by decide +kernel, eKst sq17 (by decide +kernel), eKst s20 (by decide +kernel), eKst s21 (by decide +kernel), CALL.st s22 (made_8_126 (d := d) ⟨rfl, by decide +kernel, 125, eFst s21 (by decide +kernel), ⟨6, eKst sq22 (by decide +kernel), by decide, by decide, by decide⟩, eKst sq22 (by decide +kernel), eKst s24 (by decide +kernel), CALL.st s25 (made_8_128 (d := d) ⟨rfl, by decide +kernel, 125, eFst s24 (by decide +kernel), ⟨6, eKst sq25 (by decide +kernel), by decide, by decide, by decide⟩, eKst sq25 (by decide +kernel), eKst s27 (by decide +kernel), CALL.st s28 (made_8_130 (d := d) ⟨rfl, by decide +kernel, 125, eFst s27 (by decide +kernel), ⟨6, eKst sq28 (by decide +kernel), by decide, by decide, by decide⟩, eKst sq28 (by decide +kernel), eKst s30 (by decide +kernel), CALL.st s31 (made_8_132 (d := d) ⟨rfl, by decide +kernel, 125, eFst s30 (by decide +kernel), ⟨6, eKst sq31 (by decide +kernel), by decide, by decide, by decide⟩, eKst sq31 (by decide +kernel), eKst s33 (by decide +kernel), CALL.st s34 (made_8_134 (d := d) ⟨rfl, by decide +kernel, 125, eFst s33 (by decide +kernel), ⟨6, eKst sq34 (by decide +kernel), by decide, by decide, by decide⟩, eKst sq34 (by decide +kernel), eKst s36 (by decide +kernel), CALL.st s37 (made_8_136 (d := d) ⟨rfl, by decide +kernel, 125, eFst s36 (by decide +kernel), ⟨6, eKst sq37 (by decide +kernel), by decide, by decide, by decide⟩, eKst sq37 (by decide +kernel), eZst s39 h⟩)⟩)⟩)⟩)⟩)⟩)⟩)⟩)⟩)⟩)⟩)⟩))
theorem made_11_138 {X : mX} {d : Nat} {Q : Option mV → mS → Prop} (h : Q none (stK 171 0 0)) : CALL X (d + 59 + 1) (32, 2047) MX11_init [vP (some 138)] (stK 139 7 32) Q := by
  have s0 : stK 139 7 32 = stK 139 7 32 := rfl
  have s1 := eNst s0 (50, 6) rfl (by decide +kernel) (by decide +kernel)
  have s2 := eRst s1 138 1 139 (by decide +kernel)
  have s3 := eNst s2 (50, 6) rfl (by decide +kernel) (by decide +kernel)
  have s4 := eRst s3 138 2 140 (by decide +kernel)
  have s5 := eNst s4 (50, 6) rfl (by decide +kernel) (by decide +kernel)
  have s6 := eRst s5 138 3 141 (by decide +kernel)
  have s7 := eNst s6 (50, 6) rfl (by decide +kernel) (by decide +kernel)
  have s8 := eRst s7 138 4 142 (by decide +kernel)
  have s9 := eNst s8 (50, 24) rfl (by decide +kernel) (by decide +kernel)
  have s10 := eRst s9 138 5 143 (by decide +kernel)
  have s11 := eNst s10 (50, 6) rfl (by decide +kernel) (by decide +kernel)
  have s12 := eRst s11 138 7 144 (by decide +kernel)
  have s13 := eNst s12 (50, 6) rfl (by decide +kernel) (by decide +kernel)
  have s14 := eRst s13 138 8 145 (by decide +kernel)
  have s15 := eNst s14 (50, 6) rfl (by decide +kernel) (by decide +kernel)
  have s16 := eRst s15 138 9 146 (by decide +kernel)
  have s17 := eNst s16 (50, 6) rfl (by decide +kernel) (by decide +kernel)
  have s18 := eRst s17 138 10 147 (by decide +kernel)
  have s19 := eNst s18 (50, 100) rfl (by decide +kernel) (by decide +kernel)
  have s20 := eRst s19 138 13 148 (by decide +kernel)
  have s21 := eNst s20 (50, 6) rfl (by decide +kernel) (by decide +kernel)
  have s22 := eRst s21 138 20 149 (by decide +kernel)
  have s23 := eNst s22 (50, 61) rfl (by decide +kernel) (by decide +kernel)
  have s24 := eRst s23 138 21 150 (by decide +kernel)
  have s25 := eNst s24 (50, 61) rfl (by decide +kernel) (by decide +kernel)
  have s26 := eRst s25 138 22 151 (by decide +kernel)
  have s27 := eNst s26 (50, 61) rfl (by decide +kernel) (by decide +kernel)
  have s28 := eRst s27 138 23 152 (by decide +kernel)
  have s29 := eNst s28 (50, 61) rfl (by decide +kernel) (by decide +kernel)
  have s30 := eRst s29 138 24 153 (by decide +kernel)
  have s31 := eNst s30 (50, 800) rfl (by decide +kernel) (by decide +kernel)
  have s32 := eRst s31 138 25 154 (by decide +kernel)
  have s33 := eNst s32 (52, 110) rfl (by decide +kernel) (by decide +kernel)
  have s34 := eRst s33 138 27 155 (by decide +kernel)
  have s35 := eNst s34 (50, 5) rfl (by decide +kernel) (by decide +kernel)
  have s36 := eRst s35 138 29 156 (by decide +kernel)
  have s37 := eNst s36 (50, 5) rfl (by decide +kernel) (by decide +kernel)
  have s38 := eRst s37 138 30 157 (by decide +kernel)
  have s39 := eNst s38 (50, 5) rfl (by decide +kernel) (by decide +kernel)
  have s40 := eRst s39 138 31 158 (by decide +kernel)
  have s41 := eNst s40 (50, 10) rfl (by decide +kernel) (by decide +kernel)
  have s42 := eRst s41 138 33 159 (by decide +kernel)
  have s43 := eNst s42 (50, 10) rfl (by decide +kernel) (by decide +kernel)
  have s44 := eRst s43 138 34 160 (by decide +kernel)
  have s45 := eNst s44 (50, 8) rfl (by decide +kernel) (by decide +kernel)
  have s46 := eRst s45 138 36 161 (by decide +kernel)
  have s47 := eNst s46 (50, 8) rfl (by decide +kernel) (by decide +kernel)
  have s48 := eRst s47 138 37 162 (by decide +kernel)
  have s49 := eNst s48 (50, 20) rfl (by decide +kernel) (by decide +kernel)
  have s50 := eRst s49 138 39 163 (by decide +kernel)
  have s51 := eNst s50 (50, 130) rfl (by decide +kernel) (by decide +kernel)
  have s52 := eRst s51 138 41 164 (by decide +kernel)
  have s53 := eNst s52 (50, 130) rfl (by decide +kernel) (by decide +kernel)
  have s54 := eRst s53 138 42 165 (by decide +kernel)
  have s55 := eNst s54 (50, 6) rfl (by decide +kernel) (by decide +kernel)
  have s56 := eRst s55 138 43 166 (by decide +kernel)
  have s57 := eNst s56 (50, 6) rfl (by decide +kernel) (by decide +kernel)
  have s58 := eRst s57 138 44 167 (by decide +kernel)
  have s59 := eNst s58 (50, 6) rfl (by decide +kernel) (by decide +kernel)
  have s60 := eRst s59 138 46 168 (by decide +kernel)
  have s61 := eNst s60 (50, 6) rfl (by decide +kernel) (by decide +kernel)
  have s62 := eRst s61 138 47 169 (by decide +kernel)
  have s63 := eNst s62 (53, 360) rfl (by decide +kernel) (by decide +kernel)
  have s64 := eRst s63 138 48 170 (by decide +kernel)
  have s65 := eIst s64 138 19 (-1) (by decide +kernel)
  have s66 := eIst s65 168 0 (-1) (by decide +kernel)
  have s67 := eIst s66 168 1 (-1) (by decide +kernel)
  have s68 := eIst s67 168 2 (-1) (by decide +kernel)
  have s69 := eIst s68 168 3 (-1) (by decide +kernel)
  have s70 := eIst s69 168 4 (-1) (by decide +kernel)
  have s71 := eIst s70 168 5 (-1) (by decide +kernel)
  exact B_X11_init (d := d + 59) (n0 := 139) (by decide +kernel) ⟨eKst s1 (by decide +kernel), eKst s3 (by decide +kernel), eKst s5 (by decide +kernel), eKst s7 (by decide +kernel), eKst s9 (by decide +kernel), eKst s11 (by decide +kernel), eKst s13 (by decide +kernel), eKst s15 (by decide +kernel), eKst s17 (by decide +kernel), eKst s19 (by decide +kernel), eKst s21 (by decide +kernel), eKst s23 (by decide +kernel), eKst s25 (by decide +kernel), eKst s27 (by decide +kernel), eKst s29 (by decide +kernel), eKst s31 (by decide +kernel), eKst s33 (by decide +kernel), eKst s35 (by decide +kernel), eKst s37 (by decide +kernel), eKst s39 (by decide +kernel), eKst s41 (by decide +kernel), eKst s43 (by decide +kernel), eKst s45 (by decide +kernel), eKst s47 (by decide +kernel), eKst s49 (by decide +kernel), eKst s51 (by decide +kernel), eKst s53 (by decide +kernel), eKst s55 (by decide +kernel), eKst s57 (by decide +kernel), eKst s59 (by decide +kernel), eKst s61 (by decide +kernel), eKst s63 (by decide +kernel), eKst s64 (by decide +kernel), eKst s65 (by decide +kernel), 168, eFst s65 (by decide +kernel), ⟨6, eKst s65 (by decide +kernel), by decide, by decide, by decide⟩, eKst s66 (by decide +kernel), 168, eFst s66 (by decide +kernel), ⟨6, eKst s66 (by decide +kernel), by decide, by decide, by decide⟩, eKst s67 (by decide +kernel), 168, eFst s67 (by decide +kernel), ⟨6, eKst s67 (by decide +kernel), by decide, by decide, by decide⟩, eKst s68 (by decide +kernel), 168, eFst s68 (by decide +kernel), ⟨6, eKst s68 (by decide +kernel), by decide, by decide, by decide⟩, eKst s69 (by decide +kernel), 168, eFst s69 (by decide +kernel), ⟨6, eKst s69 (by decide +kernel), by decide, by decide, by decide⟩, eKst s70 (by decide +kernel), 168, eFst s70 (by decide +kernel), ⟨6, eKst s70 (by decide +kernel), by decide, by decide, by decide⟩, eZst s71 h⟩
