/-! what was heard: the given one -/
section HEARD
variable {X : mX} {d : Nat} {σ : mS} {Q : Option mV → mS → Prop} {y : Nat} {Y Z : mY} {B : List mCl}
def hfit (B : List mCl) (Y : mY) (p : Nat) (v : Int) (s i : Nat) : Bool := if Y 143 i = (p : Int) then ansS B Y p v s (Y 131 (Y 144 i).toNat).toNat == decide (Y 145 i = 1) else true
def hall (B : List mCl) (Y : mY) (p : Nat) (v : Int) (s : Nat) : Nat → Nat → Bool
  | 0, _ => true
  | m + 1, i => hfit B Y p v s i && hall B Y p v s m (i + 1)
def tstL (s : Nat) (r : Nat × Nat) : Bool := r.2.testBit (pc (r.1 &&& s))
def RowsAt (σ : mS) (L : List (Nat × Nat)) : Prop := σ.2.1 82 6 = L.length ∧ L.length ≤ 5 ∧ ∀ i, i < L.length → σ.2.1 106 i = ((L.getD i (0, 0)).1 : Int) ∧ σ.2.1 107 i = ((L.getD i (0, 0)).2 : Int) ∧ (L.getD i (0, 0)).1 < 4096 ∧ (L.getD i (0, 0)).2 < 8192
theorem c_allFitL (hs : Sh σ) {L0 : List (Nat × Nat)} (hL : RowsAt σ L0) {s : Nat} (hs4 : s < 4096) {R : Bool} (hQ : Q (some (vI (bB R))) σ) : ∀ (L : List (Nat × Nat)) (i : Nat), i + L.length = L0.length → L0.drop i = L → L.all (tstL s) = R → WP X (d + 1) (0, 0) MX2_allFit 2 [(0, vP (some 82)), (1, vI (s : Int)), (2, vI (i : Int))] [] σ Q := by
  obtain ⟨h1, h2, h3⟩ := hL
  intro L
  induction L with
  | nil =>
    intro i hi hd hR
    simp only [List.length_nil] at hi
    simp only [List.all_nil] at hR
    subst hR
    exact C_X2_allFit_2 hs ⟨by omega, fun _ => hQ, fun hz => absurd hz (by omega)⟩
  | cons c L ih =>
    intro i hi hd hR
    simp only [List.length_cons] at hi
    obtain ⟨d1, d2, d3⟩ := dropE (x := ((0, 0) : Nat × Nat)) hi hd
    obtain ⟨e1, e2, e3, e4⟩ := h3 i (by omega)
    rw [d2] at e1 e2 e3 e4
    rw [List.all_cons] at hR
    refine C_X2_allFit_2 hs ⟨by omega, fun hz => absurd hz (by omega), fun _ => ⟨by omega, by omega, ?_⟩⟩
    rw [show ((i : Int)).toNat = i by omega, e1, e2, band_n (by omega), show (i : Int) + 1 = ((i + 1 : Nat) : Int) by omega]
    have hl : c.1 &&& s < 4096 := Nat.lt_of_le_of_lt Nat.and_le_left e3
    refine c_bitCount hl ⟨_, rfl, hs, ?_⟩
    rw [bit_1 e4 (pc_le _)]
    refine ⟨fun hz => ?_, fun hz => ?_⟩
    · cases hg : c.2.testBit (pc (c.1 &&& s)) with
      | false => rw [hg] at hz; exact absurd rfl hz
      | true =>
        rw [show tstL s c = true from hg, Bool.true_and] at hR
        exact ih (i + 1) (by omega) d1 hR
    · cases hg : c.2.testBit (pc (c.1 &&& s)) with
      | true => rw [hg] at hz; exact absurd hz (by decide)
      | false =>
        rw [show tstL s c = false from hg, Bool.false_and] at hR
        rw [hR]
        exact hQ
theorem c_allFit (hs : Sh σ) {L : List (Nat × Nat)} (hL : RowsAt σ L) {s : Nat} (hs4 : s < 4096) (hQ : Q (some (vI (bB (L.all (tstL s))))) σ) : CALL X (d + 1) (0, 0) MX2_allFit [vP (some 82), vI (s : Int)] σ Q :=
  C_X2_allFit hs (c_allFitL hs hL hs4 hQ L 0 (Nat.zero_add _) rfl rfl)
theorem c_rowsL {σ0 : mS} {p : Nat} (hp : (p : Int) < Y 125 0) {v : Int} (hv : 0 ≤ v ∧ v ≤ 9) {H : Nat → Bool} (hQ : ∀ σ' L, Agk DFn σ0 σ' → RowsAt σ' L → (∀ s, s < 4096 → L.all (tstL s) = H s) → Q none σ') : ∀ (m i : Nat) (σ : mS) (L : List (Nat × Nat)), (i : Int) + m = Y 125 28 → Agk DFn σ0 σ → YB σ y Y B → RowsAt σ L → L.length ≤ i → (∀ s, s < 4096 → (L.all (tstL s) && hall B Y p v s m i) = H s) → WP X (d + 5) (0, 0) MX2_findRows 8 [(0, vP (some 82)), (1, vP (some y)), (2, vI (p : Int)), (3, vI v), (4, vI (i : Int))] [] σ Q := by
  intro m
  induction m with
  | zero =>
    intro i σ L hi hA h hL hl hH
    have e2 := h.2.2.1.2.2.2.1.1
    refine C_X2_findRows_8 h.1 h.2.1 ⟨by have := h.2.2.2.1.hr.1; omega, fun _ => hQ σ L hA hL (fun s hs4 => ?_), fun hz => absurd hz (by omega)⟩
    have := hH s hs4
    simp only [hall, Bool.and_true] at this
    exact this
  | succ m ih =>
    intro i σ L hi hA h hL hl hH
    have hs := h.1
    have hc := h.c
    obtain ⟨e2, e3⟩ := h.2.2.1.2.2.2.1
    have hw := h.2.2.2.1.hr
    obtain ⟨w1, w2, w3⟩ := hw.2 i (by omega)
    obtain ⟨r1, r2, r3⟩ := e3 i (by omega)
    have hR : isR (y + 3) := isR2 h.2.1
    have hM := (rM_y h.2.1).1
    have hy55 := h.le
    simp only [hall] at hH
    refine C_X2_findRows_8 hs h.2.1 ⟨by omega, fun hz => absurd hz (by omega), fun _ => C_X6_second hs hR (c_cell hs hR (by omega) (by decide) (by rw [hM]; omega) ⟨_, rfl, hs, _, rfl, hs, ?_⟩)⟩
    rw [show 3 * ((i : Int)).toNat + ((1 : Int)).toNat = 3 * i + 1 by omega, show y + 3 + 1 = y + 4 from rfl, r2, show (i : Int) + 1 = ((i + 1 : Nat) : Int) by omega]
    obtain ⟨q, hq⟩ : ∃ q : Nat, Y 144 i = (q : Int) := ⟨(Y 144 i).toNat, by omega⟩
    rw [hq]
    have hq6 : q < 6 := by omega
    refine c_questionY h (by omega) ⟨_, rfl, hs, fun hz => (by cases hz), fun a ha => ?_⟩
    obtain rfl := Option.some.inj ha
    refine ⟨h.isQ hq6, C_X6_first hs hR (c_cell hs hR (by omega) (by decide) (by rw [hM]; omega) ⟨_, rfl, hs, _, rfl, hs, ?_⟩)⟩
    rw [show 3 * ((i : Int)).toNat + ((0 : Int)).toNat = 3 * i by omega, show y + 3 + 1 = y + 4 from rfl, r1]
    have gq := h.q hq6
    have wq := h.2.2.2.1.q hq6
    obtain ⟨mt, hmt⟩ : ∃ n : Nat, Y 131 q = (n : Int) := ⟨(Y 131 q).toNat, by omega⟩
    obtain ⟨l1, l2, l3⟩ := hL
    refine ⟨by omega, by omega, fun hz => ?_, fun hz => ⟨fun h5 => absurd h5 (by omega), fun _ => ⟨by omega, by omega, ?_⟩⟩⟩
    · refine ih (i + 1) σ L (by omega) hA h ⟨l1, l2, l3⟩ (by omega) (fun s hs4 => ?_)
      rw [← hH s hs4]
      have : hfit B Y p v s i = true := by
        unfold hfit
        rw [if_neg hz]
      rw [this, Bool.true_and]
    · rw [gq.1, hmt, l1, show ((L.length : Int)).toNat = L.length by omega]
      have hs2 : Sh (sI σ 106 L.length (mt : Int)) := sh_I hs (by omega) (hs.k (a := 106) rfl) (Or.inl (by decide))
      have hA2 : Agk DFn σ (sI σ 106 L.length (mt : Int)) := (Agk.rf hs).sI hs2 (Or.inr (Or.inr ⟨by decide, by decide⟩))
      have h2 := h.fF hA2
      have em : (sI σ 106 L.length (mt : Int)).2.1 (y + 11 + 3 * q) 0 = (mt : Int) := by rw [sI_at, if_neg (by omega), gq.1, hmt]
      have ec : (sI σ 106 L.length (mt : Int)).2.1 82 6 = (L.length : Int) := by rw [sI_at, if_neg (by omega), l1]
      rw [em, ec, show ((L.length : Int)).toNat = L.length by omega]
      refine c_bitCount (by omega) ⟨_, rfl, hs2, C_X6_third hs2 hR (c_cell hs2 hR (by rw [hA2.2.2 (y + 3) 2 (by unfold DFn; omega)]; omega) (by decide) (by rw [hM, hA2.2.2 (y + 3) 2 (by unfold DFn; omega)]; omega) ⟨_, rfl, hs2, _, rfl, hs2, ?_⟩)⟩
      rw [show 3 * ((i : Int)).toNat + ((2 : Int)).toNat = 3 * i + 2 by omega, show y + 3 + 1 = y + 4 from rfl, hA2.2.2 (y + 4) _ (by unfold DFn; omega), r3]
      have fin : ∀ (c : Bool) (σ3 : mS), c = decide (Y 145 i = 1) → Agk D85 (sI σ 106 L.length (mt : Int)) σ3 → 0 ≤ (L.length : Int) ∧ (L.length : Int) < 5 ∧ (-2147483648 ≤ (bitsF (fitF B Y p v (pc mt) c) (pc mt + 1) 0 : Int) ∧ (bitsF (fitF B Y p v (pc mt) c) (pc mt + 1) 0 : Int) ≤ 2147483647) ∧ (-2147483648 ≤ (sI σ3 107 L.length (bitsF (fitF B Y p v (pc mt) c) (pc mt + 1) 0 : Int)).2.1 82 6 + 1 ∧ (sI σ3 107 L.length (bitsF (fitF B Y p v (pc mt) c) (pc mt + 1) 0 : Int)).2.1 82 6 + 1 ≤ 2147483647) ∧ WP X (d + 5) (0, 0) MX2_findRows 8 [(0, vP (some 82)), (1, vP (some y)), (2, vI (p : Int)), (3, vI v), (4, vI ((i + 1 : Nat) : Int))] [] (sI (sI σ3 107 L.length (bitsF (fitF B Y p v (pc mt) c) (pc mt + 1) 0 : Int)) 82 6 ((sI σ3 107 L.length (bitsF (fitF B Y p v (pc mt) c) (pc mt + 1) 0 : Int)).2.1 82 6 + 1)) Q := by
        intro c σ3 hcd hA3
        have hpm := pc_le mt
        have hlt := bitsF_13 (fitF B Y p v (pc mt) c) (pc mt + 1) 0 (by omega)
        have ec3 : (sI σ3 107 L.length (bitsF (fitF B Y p v (pc mt) c) (pc mt + 1) 0 : Int)).2.1 82 6 = (L.length : Int) := by rw [sI_at, if_neg (by omega), hA3.2.2 82 6 (by unfold D85; omega), ec]
        rw [ec3]
        have hs4 : Sh (sI σ3 107 L.length (bitsF (fitF B Y p v (pc mt) c) (pc mt + 1) 0 : Int)) := sh_I hA3.1 (by omega) (hA3.1.k (a := 107) rfl) (Or.inl (by decide))
        have hs5 : Sh (sI (sI σ3 107 L.length (bitsF (fitF B Y p v (pc mt) c) (pc mt + 1) 0 : Int)) 82 6 ((L.length : Int) + 1)) := sh_I hs4 (by omega) (hs4.k (a := 82) rfl) (Or.inl (by decide))
        have hA5 : Agk DFn σ (sI (sI σ3 107 L.length (bitsF (fitF B Y p v (pc mt) c) (pc mt + 1) 0 : Int)) 82 6 ((L.length : Int) + 1)) := ((DFn_tr hA2 (hA3.mono D85_Fn)).sI hs4 (Or.inr (Or.inr ⟨by decide, by decide⟩))).sI hs5 (Or.inl rfl)
        refine ⟨by omega, by omega, by omega, by omega, ih (i + 1) _ (L ++ [(mt, bitsF (fitF B Y p v (pc mt) c) (pc mt + 1) 0)]) (by omega) (DFn_tr hA hA5) (h.fF hA5) ⟨?_, ?_, fun j hj => ?_⟩ ?_ (fun s hs4' => ?_)⟩
        · rw [sI_at, if_pos ⟨rfl, rfl⟩, List.length_append, List.length_singleton]
          omega
        · rw [List.length_append, List.length_singleton]
          omega
        · rw [List.length_append, List.length_singleton] at hj
          by_cases hz : j = L.length
          · have e : (L ++ [(mt, bitsF (fitF B Y p v (pc mt) c) (pc mt + 1) 0)]).getD j (0, 0) = (mt, bitsF (fitF B Y p v (pc mt) c) (pc mt + 1) 0) := by
              rw [hz, List.getD_eq_getElem?_getD, List.getElem?_append_right (Nat.le_refl _), Nat.sub_self]
              rfl
            rw [e]
            refine ⟨?_, ?_, by show mt < 4096; omega, hlt⟩
            · rw [sI_at, if_neg (by omega), sI_at, if_neg (by omega), hA3.2.2 106 j (by unfold D85; omega), sI_at, if_pos ⟨rfl, hz⟩]
            · rw [sI_at, if_neg (by omega), sI_at, if_pos ⟨rfl, hz⟩]
          · have e : (L ++ [(mt, bitsF (fitF B Y p v (pc mt) c) (pc mt + 1) 0)]).getD j (0, 0) = L.getD j (0, 0) := by
              rw [List.getD_eq_getElem?_getD, List.getD_eq_getElem?_getD, List.getElem?_append_left (by omega)]
            rw [e]
            have k := l3 j (by omega)
            refine ⟨?_, ?_, k.2.2⟩
            · rw [sI_at, if_neg (by omega), sI_at, if_neg (by omega), hA3.2.2 106 j (by unfold D85; omega), sI_at, if_neg (by omega)]
              exact k.1
            · rw [sI_at, if_neg (by omega), sI_at, if_neg (by omega), hA3.2.2 107 j (by unfold D85; omega), sI_at, if_neg (by omega)]
              exact k.2.1
        · rw [List.length_append, List.length_singleton]
          omega
        · rw [← hH s hs4', List.all_append, Bool.and_assoc]
          congr 1
          congr 1
          simp only [List.all_cons, List.all_nil, Bool.and_true]
          unfold hfit
          have hle := pc_and_le mt s
          show (bitsF (fitF B Y p v (pc mt) c) (pc mt + 1) 0).testBit (pc (mt &&& s)) = _
          rw [bitsF_bit, decide_eq_true (by omega), Bool.true_and, if_pos hz, hq, show ((q : Int)).toNat = q by omega, hmt, show ((mt : Int)).toNat = mt by omega, hcd]
          rfl
      refine ⟨by omega, fun h1 => ?_, fun h1 => ?_⟩
      · exact c_fits (d := d) (c := false) h2 hp hv (pc_le mt) (fun σ3 hA3 => ⟨_, rfl, hA3.1, fin false σ3 (decide_eq_false h1).symm hA3⟩)
      · exact c_fits (d := d) (c := true) h2 hp hv (pc_le mt) (fun σ3 hA3 => ⟨_, rfl, hA3.1, fin true σ3 (decide_eq_true h1).symm hA3⟩)
theorem c_rows (h : YB σ y Y B) {p : Nat} (hp : (p : Int) < Y 125 0) {v : Int} (hv : 0 ≤ v ∧ v ≤ 9) (hQ : ∀ σ' L, Agk DFn σ σ' → RowsAt σ' L → (∀ s, s < 4096 → L.all (tstL s) = hall B Y p v s (Y 125 28).toNat 0) → Q none σ') : CALL X (d + 5) (0, 0) MX2_findRows [vP (some 82), vP (some y), vI (p : Int), vI v] σ Q := by
  have hs := h.1
  have hs2 : Sh (sI σ 82 6 0) := sh_I hs (by decide) (hs.k (a := 82) rfl) (Or.inl (by decide))
  have hA2 : Agk DFn σ (sI σ 82 6 0) := (Agk.rf hs).sI hs2 (Or.inl rfl)
  have hw := h.2.2.2.1.hr.1
  refine C_X2_findRows hs h.2.1 (c_rowsL (σ0 := σ) (Y := Y) (B := B) hp hv hQ (Y 125 28).toNat 0 _ [] (by omega) hA2 (h.fF hA2) ⟨?_, by decide, fun i hi => absurd hi (Nat.not_lt_zero _)⟩ (Nat.le_refl _) (fun s _ => ?_))
  · rw [sI_at, if_pos ⟨rfl, rfl⟩]
    rfl
  · rw [List.all_nil, Bool.true_and]
/-- the first of some numbers that will do -/
def fstF (f : Nat → Bool) : Nat → Nat → Option Nat
  | 0, _ => none
  | m + 1, q => if f q then some q else fstF f m (q + 1)
theorem fstF_r (f : Nat → Bool) : ∀ m q, -5 ≤ optI (fstF f m q) ∧ optI (fstF f m q) ≤ q + m
  | 0, q => by simp only [fstF, optI]; omega
  | m + 1, q => by
    have := fstF_r f m (q + 1)
    simp only [fstF]
    split
    · simp only [optI]; omega
    · omega
theorem cntF_y {f : Nat → Bool} {m q : Nat} (h : f q = true) : cntF f (m + 1) q = 1 + cntF f m (q + 1) := by
  show (if f q = true then 1 else 0) + cntF f m (q + 1) = _
  rw [h]
  rfl
theorem cntF_n {f : Nat → Bool} {m q : Nat} (h : f q = false) : cntF f (m + 1) q = cntF f m (q + 1) := by
  show (if f q = true then 1 else 0) + cntF f m (q + 1) = _
  rw [h]
  exact Nat.zero_add _
theorem fstF_y {f : Nat → Bool} {m q : Nat} (h : f q = true) : fstF f (m + 1) q = some q := by
  show (if f q = true then some q else fstF f m (q + 1)) = _
  rw [h]
  rfl
theorem fstF_n {f : Nat → Bool} {m q : Nat} (h : f q = false) : fstF f (m + 1) q = fstF f m (q + 1) := by
  show (if f q = true then some q else fstF f m (q + 1)) = _
  rw [h]
  rfl
theorem c_cntL (hs : Sh σ) {L : List (Nat × Nat)} (hL : RowsAt σ L) {R : Int} (hQ : Q (some (vI R)) σ) : ∀ (m s : Nat) (c : Int), s + m = 4096 → c + (cntF (fun s => L.all (tstL s)) m s : Int) = R → WP X (d + 2) (0, 0) MX2_knewCount 30 [(0, vP (some 82)), (4, vI c), (5, vI (s : Int))] [] σ Q := by
  intro m
  induction m with
  | zero =>
    intro s c hm hR
    simp only [cntF] at hR
    have hR : c = R := by omega
    subst hR
    exact C_X2_knewCount_30 hs ⟨by omega, fun _ => hQ, fun hz => absurd hz (by omega)⟩
  | succ m ih =>
    intro s c hm hR
    refine C_X2_knewCount_30 hs ⟨by omega, fun hz => absurd hz (by omega), fun _ => c_allFit hs hL (by omega) ⟨_, rfl, hs, fun hz => ?_, fun hz => ?_⟩⟩
    all_goals rw [show (s : Int) + 1 = ((s + 1 : Nat) : Int) by omega]
    · rw [cntF_n (f := fun s => L.all (tstL s)) hz] at hR
      exact ih (s + 1) _ (by omega) (by omega)
    · rw [cntF_y (f := fun s => L.all (tstL s)) hz] at hR
      exact ih (s + 1) _ (by omega) (by omega)
theorem c_lstL (hs : Sh σ) {L : List (Nat × Nat)} (hL : RowsAt σ L) {R : Int} (hQ : Q (some (vI R)) σ) : ∀ (m s : Nat), s + m = 4096 → optI (fstF (fun s => L.all (tstL s)) m s) = R → WP X (d + 2) (0, 0) MX2_knewLeast 27 [(0, vP (some 82)), (4, vI (s : Int))] [] σ Q := by
  intro m
  induction m with
  | zero =>
    intro s hm hR
    simp only [fstF] at hR
    subst hR
    exact C_X2_knewLeast_27 hs ⟨by omega, fun _ => hQ, fun hz => absurd hz (by omega)⟩
  | succ m ih =>
    intro s hm hR
    refine C_X2_knewLeast_27 hs ⟨by omega, fun hz => absurd hz (by omega), fun _ => c_allFit hs hL (by omega) ⟨_, rfl, hs, fun hz => ?_, fun hz => ?_⟩⟩
    · rw [fstF_n (f := fun s => L.all (tstL s)) hz] at hR
      rw [show (s : Int) + 1 = ((s + 1 : Nat) : Int) by omega]
      exact ih (s + 1) (by omega) hR
    · rw [fstF_y (f := fun s => L.all (tstL s)) hz] at hR
      rw [← hR] at hQ
      exact hQ
/-- sets (of 4096) that fit what was heard -/
def heaF (B : List mCl) (Y : mY) (p : Nat) : Nat → Bool := fun s => hall B Y p (Y 127 p) s (Y 125 28).toNat 0
theorem cntF_e {f g : Nat → Bool} : ∀ m q, (∀ s, q ≤ s → s < q + m → f s = g s) → cntF f m q = cntF g m q
  | 0, _, _ => rfl
  | m + 1, q, h => by
    simp only [cntF]
    rw [h q (by omega) (by omega), cntF_e m (q + 1) (fun s h1 h2 => h s (by omega) (by omega))]
theorem fstF_e {f g : Nat → Bool} : ∀ m q, (∀ s, q ≤ s → s < q + m → f s = g s) → fstF f m q = fstF g m q
  | 0, _, _ => rfl
  | m + 1, q, h => by
    simp only [fstF]
    rw [h q (by omega) (by omega), fstF_e m (q + 1) (fun s h1 h2 => h s (by omega) (by omega))]
theorem c_knewC (h : YB σ y Y B) {p : Nat} (hp : (p : Int) < Y 125 0) (hQ : ∀ σ', Agk DFn σ σ' → Q (some (vI (cntF (heaF B Y p) 4096 0 : Int))) σ') : CALL X (d + 6) (0, 0) MX2_knewCount [vP (some 82), vP (some y), vI (p : Int)] σ Q := by
  have hs := h.1
  have hc := h.c
  have hp6 : p < 6 := by omega
  refine C_X2_knewCount hs h.2.1 (c_guardY h hp ⟨_, rfl, hs, fun hz => (by cases hz), fun a ha => ?_⟩)
  obtain rfl := Option.some.inj ha
  rw [(h.g hp6).2.1]
  refine ⟨h.isG hp6, c_rows h hp (h.2.2.2.1.g hp6).2.1 (fun σ1 L hA hL hH => ⟨rfl, hA.1, ?_⟩)⟩
  refine c_cntL (d := d + 4) hA.1 hL (hQ σ1 hA) 4096 0 0 rfl ?_
  rw [cntF_e (g := heaF B Y p) 4096 0 (fun s _ h2 => hH s (by omega))]
  omega
theorem c_knewL (h : YB σ y Y B) {p : Nat} (hp : (p : Int) < Y 125 0) (hQ : ∀ σ', Agk DFn σ σ' → Q (some (vI (optI (fstF (heaF B Y p) 4096 0)))) σ') : CALL X (d + 6) (0, 0) MX2_knewLeast [vP (some 82), vP (some y), vI (p : Int)] σ Q := by
  have hs := h.1
  have hc := h.c
  have hp6 : p < 6 := by omega
  refine C_X2_knewLeast hs h.2.1 (c_guardY h hp ⟨_, rfl, hs, fun hz => (by cases hz), fun a ha => ?_⟩)
  obtain rfl := Option.some.inj ha
  rw [(h.g hp6).2.1]
  refine ⟨h.isG hp6, c_rows h hp (h.2.2.2.1.g hp6).2.1 (fun σ1 L hA hL hH => ⟨rfl, hA.1, ?_⟩)⟩
  refine c_lstL (d := d + 4) hA.1 hL (hQ σ1 hA) 4096 0 rfl ?_
  rw [fstF_e (g := heaF B Y p) 4096 0 (fun s _ h2 => hH s (by omega))]
/-- does v fit with what was heard, the guard knowing what it does -/
def canF (B : List mCl) (Y : mY) (p : Nat) : Nat → Bool := fun v => hall B Y p (v : Int) (Y 128 p).toNat (Y 125 28).toNat 0
theorem c_fitsWith (h : YB σ y Y B) {p : Nat} (hp : (p : Int) < Y 125 0) {v : Nat} (hv : v ≤ 9) (hQ : ∀ σ', Agk DFn σ σ' → Q (some (vI (bB (canF B Y p v)))) σ') : CALL X (d + 6) (0, 0) MX2_fitsWith [vP (some 82), vP (some y), vI (p : Int), vI (v : Int)] σ Q := by
  have hs := h.1
  have hc := h.c
  have hp6 : p < 6 := by omega
  have wg := h.2.2.2.1.g hp6
  obtain ⟨kn, hkn⟩ : ∃ n : Nat, Y 128 p = (n : Int) := ⟨(Y 128 p).toNat, by omega⟩
  refine C_X2_fitsWith hs h.2.1 (c_guardY h hp ⟨_, rfl, hs, c_rows h hp (by omega) (fun σ1 L hA hL hH => ⟨rfl, hA.1, fun hz => (by cases hz), fun a ha => ?_⟩)⟩)
  obtain rfl := Option.some.inj ha
  have h1 := h.fF hA
  rw [(h1.g hp6).2.2.1, hkn]
  have e : canF B Y p v = L.all (tstL kn) := by
    unfold canF
    rw [hkn, show ((kn : Int)).toNat = kn by omega]
    exact (hH kn (by omega)).symm
  rw [e] at hQ
  refine ⟨h1.isG hp6, c_allFit (d := d + 4) hA.1 hL (by omega) ⟨_, rfl, hA.1, fun hz => ?_, fun hz => ?_⟩⟩
  · have := hQ σ1 hA
    rw [hz] at this
    exact this
  · have := hQ σ1 hA
    rw [hz] at this
    exact this
theorem c_canCL {σ0 : mS} {p : Nat} (hp : (p : Int) < Y 125 0) {R : Int} (hQ : ∀ σ', Agk DFn σ0 σ' → Q (some (vI R)) σ') : ∀ (m v : Nat) (c : Int) (σ : mS), v + m = 10 → Agk DFn σ0 σ → YB σ y Y B → c + (cntF (canF B Y p) m v : Int) = R → WP X (d + 7) (0, 0) MX2_canCount 5 [(0, vP (some 82)), (1, vP (some y)), (2, vI (p : Int)), (3, vI c), (4, vI (v : Int))] [] σ Q := by
  intro m
  induction m with
  | zero =>
    intro v c σ hm hA h hR
    simp only [cntF] at hR
    have hR : c = R := by omega
    subst hR
    exact C_X2_canCount_5 h.1 h.2.1 ⟨by omega, fun _ => hQ σ hA, fun hz => absurd hz (by omega)⟩
  | succ m ih =>
    intro v c σ hm hA h hR
    refine C_X2_canCount_5 h.1 h.2.1 ⟨by omega, fun hz => absurd hz (by omega), fun _ => c_fitsWith h hp (by omega) (fun σ1 hA1 => ⟨_, rfl, hA1.1, fun hz => ?_, fun hz => ?_⟩)⟩
    all_goals rw [show (v : Int) + 1 = ((v + 1 : Nat) : Int) by omega]
    · rw [cntF_n hz] at hR
      exact ih (v + 1) _ σ1 (by omega) (DFn_tr hA hA1) (h.fF hA1) (by omega)
    · rw [cntF_y hz] at hR
      exact ih (v + 1) _ σ1 (by omega) (DFn_tr hA hA1) (h.fF hA1) (by omega)
theorem c_canLL {σ0 : mS} {p : Nat} (hp : (p : Int) < Y 125 0) {R : Int} (hQ : ∀ σ', Agk DFn σ0 σ' → Q (some (vI R)) σ') : ∀ (m v : Nat) (σ : mS), v + m = 10 → Agk DFn σ0 σ → YB σ y Y B → optI (fstF (canF B Y p) m v) = R → WP X (d + 7) (0, 0) MX2_canLeast 2 [(0, vP (some 82)), (1, vP (some y)), (2, vI (p : Int)), (3, vI (v : Int))] [] σ Q := by
  intro m
  induction m with
  | zero =>
    intro v σ hm hA h hR
    simp only [fstF] at hR
    subst hR
    exact C_X2_canLeast_2 h.1 h.2.1 ⟨by omega, fun _ => hQ σ hA, fun hz => absurd hz (by omega)⟩
  | succ m ih =>
    intro v σ hm hA h hR
    refine C_X2_canLeast_2 h.1 h.2.1 ⟨by omega, fun hz => absurd hz (by omega), fun _ => c_fitsWith h hp (by omega) (fun σ1 hA1 => ⟨_, rfl, hA1.1, fun hz => ?_, fun hz => ?_⟩)⟩
    · rw [fstF_n hz] at hR
      rw [show (v : Int) + 1 = ((v + 1 : Nat) : Int) by omega]
      exact ih (v + 1) σ1 (by omega) (DFn_tr hA hA1) (h.fF hA1) hR
    · rw [fstF_y hz] at hR
      have := hQ σ1 (DFn_tr hA hA1)
      rw [← hR] at this
      exact this
end HEARD
