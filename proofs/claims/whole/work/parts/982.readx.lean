/-! BORDER, 3: the class's reader: signs, numbers, tests -/
def PX (T : Nat → Int) (n bb a : Nat) (C : List Int) (σ : mS) : Prop :=
  Sh σ ∧ isB bb ∧ n ≤ 100 ∧ a ≤ n ∧ σ.2.1 108 1 = n ∧ σ.2.1 108 2 = a ∧ (∀ i, i < n → σ.2.1 109 i = T i) ∧ (∀ i, i < n → 0 ≤ T i ∧ T i ≤ 127) ∧ σ.2.2.2 108 5 = some bb ∧ σ.2.1 bb 2 = C.length ∧ C.length ≤ a ∧ (∀ j, j < C.length → σ.2.1 (bb + 1) j = C.getD j 0) ∧ σ.2.1 108 3 = chT T n a
def DFx (bb : Nat) : Nat → Nat → Prop := fun a k => (a = 108 ∧ (k = 2 ∨ k = 3 ∨ k = 4)) ∨ (a = bb ∧ k = 2) ∨ a = bb + 1
section READX
variable {X : mX} {d : Nat} {σ : mS} {Q : Option mV → mS → Prop} {T : Nat → Int} {n bb a : Nat} {C : List Int}
theorem isB.rng {b : Nat} (h : isB b) : 85 ≤ b ∧ b ≤ 100 ∧ b % 3 = 1 := by
  obtain ⟨j, hj, rfl⟩ := h
  omega
theorem PX.sg (h : PX T n bb a C σ) : σ.2.1 108 3 = chT T n a := h.2.2.2.2.2.2.2.2.2.2.2.2
theorem PX.ch (h : PX T n bb a C σ) : chT T n a = -1 ∨ (0 ≤ chT T n a ∧ chT T n a ≤ 127) := by
  unfold chT
  by_cases ha : a < n
  · rw [if_pos ha]; exact Or.inr (h.2.2.2.2.2.2.2.1 a ha)
  · rw [if_neg ha]; exact Or.inl rfl
/-- the reader goes to a place -/
theorem x_goTo0 (hs : Sh σ) (hB : isB bb) (p1 : n ≤ 100) (p3 : σ.2.1 108 1 = n) (p5 : ∀ i, i < n → σ.2.1 109 i = T i) (p6 : ∀ i, i < n → 0 ≤ T i ∧ T i ≤ 127) (p7 : σ.2.2.2 108 5 = some bb) (p8 : σ.2.1 bb 2 = C.length) (p10 : ∀ j, j < C.length → σ.2.1 (bb + 1) j = C.getD j 0) {a' : Nat} {z : Int} (hz : z = (a' : Int)) (h1 : a' ≤ n) (h2 : C.length ≤ a') (hQ : ∀ σ', PX T n bb a' C σ' → Agk (DFx bb) σ σ' → Q none σ') : CALL X d (0, 0) MX5_goTo [vP (some 108), vI z] σ Q := by
  subst hz
  have hb := hB.rng
  have hs' : Sh (sI σ 108 2 (a' : Int)) := sh_I hs (by omega) (hs.k (a := 108) rfl) (Or.inl (by decide))
  have fin : ∀ v : Int, v = chT T n a' → -2147483648 ≤ v ∧ v ≤ 2147483647 → Q none (sI (sI σ 108 2 (a' : Int)) 108 3 v) := fun v hv hr => by
    have hs2 : Sh (sI (sI σ 108 2 (a' : Int)) 108 3 v) := sh_I hs' hr (hs'.k (a := 108) rfl) (Or.inl (by decide))
    refine hQ _ ⟨hs2, hB, p1, h1, ?_, ?_, fun i hi => ?_, p6, p7, ?_, h2, fun j hj => ?_, ?_⟩ (((Agk.rf hs).sI hs' (Or.inl ⟨rfl, Or.inl rfl⟩)).sI hs2 (Or.inl ⟨rfl, Or.inr (Or.inl rfl)⟩))
    · rw [sI_at, if_neg (by omega), sI_at, if_neg (by omega)]; exact p3
    · rw [sI_at, if_neg (by omega), sI_at, if_pos ⟨rfl, rfl⟩]
    · rw [sI_at, if_neg (by omega), sI_at, if_neg (by omega)]; exact p5 i hi
    · rw [sI_at, if_neg (by omega), sI_at, if_neg (by omega)]; exact p8
    · rw [sI_at, if_neg (by omega), sI_at, if_neg (by omega)]; exact p10 j hj
    · rw [sI_at, if_pos ⟨rfl, rfl⟩]; exact hv
  have e1 : (sI σ 108 2 (a' : Int)).2.1 108 1 = n := by rw [sI_at, if_neg (by omega)]; exact p3
  refine C_X5_goTo hs ⟨by omega, fun q => absurd q (by omega), fun _ => ?_⟩
  rw [e1]
  refine ⟨fun q => fin _ ?_ (by decide), fun q => ⟨fun _ => ⟨by omega, fin _ ?_ ?_⟩, fun q2 => absurd q2 (by omega)⟩⟩
  · unfold chT
    rw [if_neg (by omega)]
  · rw [sI_at, if_neg (by omega), Int.toNat_natCast, p5 a' (by omega)]
    unfold chT
    rw [if_pos (by omega)]
  · exact hs'.2.2.1 _ _
theorem x_goTo (h : PX T n bb a C σ) {a' : Nat} {z : Int} (hz : z = (a' : Int)) (h1 : a' ≤ n) (h2 : C.length ≤ a') (hQ : ∀ σ', PX T n bb a' C σ' → Agk (DFx bb) σ σ' → Q none σ') : CALL X d (0, 0) MX5_goTo [vP (some 108), vI z] σ Q := by
  obtain ⟨hs, hB, p1, p2, p3, p4, p5, p6, p7, p8, p9, p10, p11⟩ := h
  exact x_goTo0 hs hB p1 p3 p5 p6 p7 p8 p10 hz h1 h2 hQ
theorem PX.num (h : PX T n bb a C σ) {z : Int} (hz : 0 ≤ z ∧ z ≤ 1000) : PX T n bb a C (sI σ 108 4 z) ∧ Agk (DFx bb) σ (sI σ 108 4 z) ∧ (sI σ 108 4 z).2.1 108 4 = z := by
  obtain ⟨hs, hB, p1, p2, p3, p4, p5, p6, p7, p8, p9, p10, p11⟩ := h
  have hb := hB.rng
  have hs' : Sh (sI σ 108 4 z) := sh_I hs (by omega) (hs.k (a := 108) rfl) (Or.inl (by decide))
  refine ⟨⟨hs', hB, p1, p2, ?_, ?_, fun i hi => ?_, p6, p7, ?_, p9, fun j hj => ?_, ?_⟩, (Agk.rf hs).sI hs' (Or.inl ⟨rfl, Or.inr (Or.inr rfl)⟩), ?_⟩
  · rw [sI_at, if_neg (by omega)]; exact p3
  · rw [sI_at, if_neg (by omega)]; exact p4
  · rw [sI_at, if_neg (by omega)]; exact p5 i hi
  · rw [sI_at, if_neg (by omega)]; exact p8
  · rw [sI_at, if_neg (by omega)]; exact p10 j hj
  · rw [sI_at, if_neg (by omega)]; exact p11
  · rw [sI_at, if_pos ⟨rfl, rfl⟩]
theorem x_skip (h : PX T n bb a C σ) {c : Int} (hc : 0 ≤ c ∧ c ≤ 127) (hy : chT T n a = c → ∀ σ', PX T n bb (a + 1) C σ' → Agk (DFx bb) σ σ' → Q (some (vI (bB true))) σ') (hn : chT T n a ≠ c → Q (some (vI (bB false))) σ) : CALL X (d + 1) (0, 0) MX5_skip [vP (some 108), vI c] σ Q := by
  refine C_X5_skip h.1 ⟨by omega, fun q => ?_, fun q => hn (fun e => q (h.sg.trans e))⟩
  have q : chT T n a = c := h.sg.symm.trans q
  have ha := chT_in (T := T) (n := n) (a := a) (by rw [q]; omega)
  have p4 := h.2.2.2.2.2.1
  have p9 := h.2.2.2.2.2.2.2.2.2.2.1
  exact x_goTo h (a' := a + 1) (by omega) (by omega) (by omega) (fun σ' k1 k2 => ⟨rfl, k1.1, hy q σ' k1 k2⟩)
theorem x_placeLoop {k : Nat} (hk : 1 ≤ k ∧ k ≤ 6) (h : PX T n bb a C σ) : ∀ (m i : Nat), i + m = (strB k).length → Q (some (vI (plc ((strB k).drop i) (chT T n a) i))) σ → WP X (d + 4) (0, 0) MX5_placeIn 2 [(0, vP (some 108)), (1, vO k), (2, vI (i : Int))] [] σ Q := by
  have hl := (strK_len hk).2
  have hch := h.ch
  intro m
  induction m with
  | zero =>
    intro i hi hQ
    rw [List.drop_eq_nil_of_le (by omega)] at hQ
    exact C_X5_placeIn_2 (d := d + 3) h.1 hk (s_len (d := d + 2) hk ⟨_, rfl, h.1, by omega, by omega, fun _ => hQ, fun q => absurd q (by omega)⟩)
  | succ m ih =>
    intro i hi hQ
    obtain ⟨_, r⟩ := strK_at hk i (by omega)
    have hd : (strB k).drop i = (strB k).getD i 0 :: (strB k).drop (i + 1) := by
      rw [List.drop_eq_getElem_cons (by omega)]
      congr 1
      rw [List.getD_eq_getElem?_getD, List.getElem?_eq_getElem (by omega)]
      rfl
    rw [hd] at hQ
    unfold plc at hQ
    refine C_X5_placeIn_2 (d := d + 3) h.1 hk (s_len (d := d + 2) hk ⟨_, rfl, h.1, by omega, by omega, fun q => absurd q (by omega), fun _ => s_at (d := d) hk ⟨by omega, by omega⟩ ⟨_, rfl, h.1, ?_, fun q => ?_, fun q => ?_⟩⟩)
    · rw [show ((i : Nat) : Int).toNat = i by omega]; omega
    · rw [show ((i : Nat) : Int).toNat = i by omega, h.sg] at q
      rw [if_neg q] at hQ
      exact ih (i + 1) (by omega) hQ
    · rw [show ((i : Nat) : Int).toNat = i by omega, h.sg] at q
      rw [if_pos q] at hQ
      exact hQ
theorem x_place {k : Nat} (hk : 1 ≤ k ∧ k ≤ 6) (h : PX T n bb a C σ) (hQ : Q (some (vI (plc (strB k) (chT T n a) 0))) σ) : CALL X (d + 4) (0, 0) MX5_placeIn [vP (some 108), vO k] σ Q :=
  C_X5_placeIn (d := d + 3) h.1 hk (x_placeLoop hk h (strB k).length 0 (by omega) hQ)
theorem x_number (h : PX T n bb a C σ) (hy : (pNum T n a).1 = true → ∀ σ', PX T n bb (pNum T n a).2.1 C σ' → Agk (DFx bb) σ σ' → σ'.2.1 108 4 = (pNum T n a).2.2 → Q (some (vI (bB true))) σ') (hn : (pNum T n a).1 = false → Q (some (vI (bB false))) σ) : CALL X (d + 5) (0, 0) MX5_readNumber [vP (some 108)] σ Q := by
  have e1 := plc_rng (chT T n a) digL 0
  have e2 := plc_rng (chT T n (a + 1)) digL 0
  simp only [List.length_cons, List.length_nil] at e1 e2
  have p4 := h.2.2.2.2.2.1
  have p9 := h.2.2.2.2.2.2.2.2.2.2.1
  have p1 := h.2.2.1
  have t1 : ∀ {a b c : mS}, Agk (DFx bb) a b → Agk (DFx bb) b c → Agk (DFx bb) a c := fun x y => x.tr y (fun _ _ h => h) (fun _ _ h => h)
  unfold pNum at hy hn
  refine C_X5_readNumber (d := d + 4) h.1 (x_place (k := 2) (by decide) h ⟨_, rfl, h.1, ?_, fun q => ?_, fun q => ?_⟩)
  · show -2147483648 ≤ plc digL (chT T n a) 0 ∧ plc digL (chT T n a) 0 ≤ 2147483647
    omega
  · have q : 0 ≤ plc digL (chT T n a) 0 := q
    have ha := plc_in (T := T) (n := n) (L := digL) (by decide) q
    rw [if_pos q] at hy hn
    refine x_goTo h (a' := a + 1) (by omega) (by omega) (by omega) (fun σ1 k1 k2 => ⟨rfl, k1.1, ?_⟩)
    obtain ⟨l1, l2, l3⟩ := k1.num (z := plc digL (chT T n a) 0) (by omega)
    have lA := t1 k2 l2
    refine x_place (k := 2) (by decide) l1 ⟨_, rfl, l1.1, ?_, fun r => ?_, fun r => ?_⟩
    · show -2147483648 ≤ plc digL (chT T n (a + 1)) 0 ∧ plc digL (chT T n (a + 1)) 0 ≤ 2147483647
      omega
    · have r : plc digL (chT T n (a + 1)) 0 < 0 := r
      rw [if_neg (by omega)] at hy
      exact hy rfl _ l1 lA l3
    · have r : ¬ plc digL (chT T n (a + 1)) 0 < 0 := r
      have ha2 := plc_in (T := T) (n := n) (a := a + 1) (L := digL) (by decide) (by omega)
      rw [if_pos (by omega)] at hy
      have pp := l1.2.2.2.2.2.1
      refine x_goTo l1 (a' := a + 2) (show (sI σ1 108 4 (plc digL (chT T n a) 0)).2.1 108 2 + 1 = ((a + 2 : Nat) : Int) by rw [pp]; omega) (by omega) (by omega) (fun σ2 m1 m2 => ⟨rfl, m1.1, ?_⟩)
      obtain ⟨u1, u2, u3⟩ := m1.num (z := plc digL (chT T n a) 0 * 10 + plc digL (chT T n (a + 1)) 0) (by omega)
      refine ⟨?_, hy rfl _ u1 (t1 (t1 lA m2) u2) ?_⟩
      · show -2147483648 ≤ plc digL (chT T n a) 0 * 10 + plc digL (chT T n (a + 1)) 0 ∧ plc digL (chT T n a) 0 * 10 + plc digL (chT T n (a + 1)) 0 ≤ 2147483647
        omega
      · exact u3.trans (show plc digL (chT T n a) 0 * 10 + plc digL (chT T n (a + 1)) 0 = 10 * plc digL (chT T n a) 0 + plc digL (chT T n (a + 1)) 0 by omega)
  · have q : ¬ 0 ≤ plc digL (chT T n a) 0 := q
    rw [if_neg q] at hn
    exact hn rfl
theorem x_addCode (h : PX T n bb a C σ) (hl : C.length < a) {c : Int} (hc : -2147483648 ≤ c ∧ c ≤ 2147483647) (hQ : ∀ σ', PX T n bb a (C ++ [c]) σ' → Agk (DFx bb) σ σ' → Q none σ') : CALL X d (0, 0) MX1_addCode [vP (some bb), vI c] σ Q := by
  have hh := h
  obtain ⟨hs, hB, p1, p2, p3, p4, p5, p6, p7, p8, p9, p10, p11⟩ := h
  have hb := hB.rng
  have e5 : (sI σ (bb + 1) ((σ.2.1 bb 2).toNat) c).2.1 bb 2 = C.length := by rw [sI_at, if_neg (by omega)]; exact p8
  have s1 : Sh (sI σ (bb + 1) ((σ.2.1 bb 2).toNat) c) := sh_I hs hc (kB1 hs hB) (Or.inl (by decide))
  have s2 : Sh (sI (sI σ (bb + 1) ((σ.2.1 bb 2).toNat) c) bb 2 (((sI σ (bb + 1) ((σ.2.1 bb 2).toNat) c).2.1 bb 2) + 1)) := sh_I s1 (by omega) (kB s1 hB) (Or.inl (by decide))
  refine C_X1_addCode hs hB ⟨fun q => absurd q (by omega), fun _ => ⟨by omega, by omega, hc, by omega, ?_⟩⟩
  refine hQ _ ⟨s2, hB, p1, p2, ?_, ?_, fun i hi => ?_, p6, p7, ?_, by rw [List.length_append]; simp only [List.length_cons, List.length_nil]; omega, fun j hj => ?_, ?_⟩ (((Agk.rf hs).sI s1 (Or.inr (Or.inr rfl))).sI s2 (Or.inr (Or.inl ⟨rfl, rfl⟩)))
  · rw [sI_at, if_neg (by omega), sI_at, if_neg (by omega)]; exact p3
  · rw [sI_at, if_neg (by omega), sI_at, if_neg (by omega)]; exact p4
  · rw [sI_at, if_neg (by omega), sI_at, if_neg (by omega)]; exact p5 i hi
  · rw [sI_at, if_pos ⟨rfl, rfl⟩, e5, List.length_append]; simp only [List.length_cons, List.length_nil]; omega
  · rw [sI_at, if_neg (by omega), sI_at]
    rw [List.length_append] at hj
    simp only [List.length_cons, List.length_nil] at hj
    by_cases hjl : j < C.length
    · rw [if_neg (by omega), p10 j hjl, List.getD_eq_getElem?_getD, List.getD_eq_getElem?_getD, List.getElem?_append_left hjl]
    · rw [if_pos ⟨rfl, by omega⟩, List.getD_eq_getElem?_getD, List.getElem?_append_right (by omega), show j - C.length = 0 by omega]
      rfl
  · rw [sI_at, if_neg (by omega), sI_at, if_neg (by omega)]; exact p11
end READX
