/-! BORDER, 14: the reference's words and numbers, whatever is open -/
def PN (T : Nat → Int) (n a : Nat) (σ : mS) : Prop :=
  Sh σ ∧ n ≤ 100 ∧ a ≤ n ∧ σ.2.1 125 12 = n ∧ σ.2.1 125 14 = a ∧ (∀ i, i < n → σ.2.1 135 i = T i) ∧ ∀ i, i < n → 0 ≤ T i ∧ T i ≤ 127
def DFnn : Nat → Nat → Prop := fun a k => a = 125 ∧ 14 ≤ k ∧ k ≤ 16
section PNM
variable {X : mX} {d : Nat} {σ : mS} {Q : Option mV → mS → Prop} {T : Nat → Int} {n a : Nat}
theorem DFnn_tr {a b c : mS} (x : Agk DFnn a b) (y : Agk DFnn b c) : Agk DFnn a c := x.tr y (fun _ _ h => h) (fun _ _ h => h)
theorem PN.ch (h : PN T n a σ) : chT T n a = -1 ∨ (0 ≤ chT T n a ∧ chT T n a ≤ 127) := by
  unfold chT
  by_cases ha : a < n
  · rw [if_pos ha]; exact Or.inr (h.2.2.2.2.2.2 a ha)
  · rw [if_neg ha]; exact Or.inl rfl
theorem PN.put (h : PN T n a σ) {j a' : Nat} {z : Int} (hj : 14 ≤ j ∧ j ≤ 16) (hz : -1 ≤ z ∧ z ≤ 2000) (h1 : a' ≤ n) (e14 : (a' : Int) = if 14 = j then z else σ.2.1 125 14) : PN T n a' (sI σ 125 j z) ∧ Agk DFnn σ (sI σ 125 j z) := by
  obtain ⟨hs, p1, p2, p3, p4, p6, p7⟩ := h
  have hs' : Sh (sI σ 125 j z) := sh_I hs (by omega) (hs.k (a := 125) rfl) (Or.inl (by decide))
  refine ⟨⟨hs', p1, h1, ?_, ?_, fun i hi => ?_, p7⟩, (Agk.rf hs).sI hs' ⟨rfl, hj⟩⟩
  · rw [sI_at, if_neg (by omega)]; exact p3
  · rw [sI_at, e14]; simp
  · rw [sI_at, if_neg (by omega)]; exact p6 i hi
theorem n_is (h : PN T n a σ) {c : Int} (hc : 0 ≤ c ∧ c ≤ 127) (hy : chT T n a = c → ∀ σ', PN T n (a + 1) σ' → Agk DFnn σ σ' → Q (some (vI (bB true))) σ') (hn : chT T n a ≠ c → Q (some (vI (bB false))) σ) : CALL X d (0, 0) MX11_is [vP (some 125), vI c] σ Q := by
  have hh := h
  obtain ⟨hs, p1, p2, p3, p4, p6, p7⟩ := h
  have e : a < n → chT T n a = T a := fun q => by unfold chT; rw [if_pos q]
  refine C_X11_is hs ⟨fun q => hn ?_, fun q => ⟨by omega, by omega, by omega, fun r => ⟨by omega, ?_⟩, fun r => hn ?_⟩⟩
  · unfold chT; rw [if_neg (by omega)]; omega
  · rw [p4, show ((a : Nat) : Int).toNat = a by omega, p6 a (by omega)] at r
    obtain ⟨k1, k2⟩ := hh.put (j := 14) (a' := a + 1) (z := (σ.2.1 125 14) + 1) (by omega) (by omega) (by omega) (by rw [if_pos rfl]; omega)
    exact hy (by rw [e (by omega)]; exact r) _ k1 k2
  · rw [p4, show ((a : Nat) : Int).toNat = a by omega, p6 a (by omega)] at r
    rw [e (by omega)]
    exact r
theorem n_digit (h : PN T n a σ) (hy : 0 ≤ plc digL (chT T n a) 0 → Q (some (vI (bB true))) σ) (hn : ¬ 0 ≤ plc digL (chT T n a) 0 → Q (some (vI (bB false))) σ) : CALL X d (0, 0) MX11_isDigit [vP (some 125)] σ Q := by
  have hch := h.ch
  rw [plc_dig hch] at hy hn
  obtain ⟨hs, p1, p2, p3, p4, p6, p7⟩ := h
  have e : a < n → σ.2.1 135 ((σ.2.1 125 14).toNat) = chT T n a := fun q => by unfold chT; rw [if_pos q, p4, show ((a : Nat) : Int).toNat = a by omega, p6 a q]
  refine C_X11_isDigit hs ⟨fun q => hn ?_, fun q => ⟨by omega, by omega, fun r => hn ?_, fun r => ⟨fun t => hn ?_, fun t => hy ?_⟩⟩⟩
  · have : chT T n a = -1 := by unfold chT; rw [if_neg (by omega)]
    rw [if_neg (by omega)]; decide
  · rw [e (by omega)] at r
    rw [if_neg (by omega)]; decide
  · rw [e (by omega)] at t
    rw [if_neg (by omega)]; decide
  · rw [e (by omega)] at r t
    rw [if_pos (by omega)]; omega
theorem n_numStep {c v : Int} (h : PN T n a σ) (hc : σ.2.1 125 16 = c) (hv : σ.2.1 125 15 = v) (hc2 : c = 0 ∨ c = 1) (hv2 : 0 ≤ v ∧ v ≤ 9) (hn0 : ¬ 0 ≤ plc digL (chT T n a) 0 → c = 0 → Q (some (vI (bB false))) σ) (hn1 : ¬ 0 ≤ plc digL (chT T n a) 0 → c = 1 → Q (some (vI (bB true))) σ)
    (hy : 0 ≤ plc digL (chT T n a) 0 → ∀ σ', PN T n (a + 1) σ' → Agk DFnn σ σ' → σ'.2.1 125 16 = c + 1 → σ'.2.1 125 15 = 10 * v + plc digL (chT T n a) 0 → WP X (d + 1) (0, 0) MX11_isNumber 10 [(0, vP (some 125))] [] σ' Q) : WP X (d + 1) (0, 0) MX11_isNumber 10 [(0, vP (some 125))] [] σ Q := by
  have hch := h.ch
  refine C_X11_isNumber_10 h.1 ⟨fun q => absurd q (by omega), fun _ => n_digit h (fun q => ⟨true, rfl, h.1, (fun q => nomatch q), fun _ => ?_⟩) (fun q => ⟨false, rfl, h.1, fun _ => ⟨fun r => hn0 q (by omega), fun r => hn1 q (by omega)⟩, (fun q => nomatch q)⟩)⟩
  have ha := plc_in (T := T) (n := n) (L := digL) (by decide) q
  have hy := hy q
  rw [plc_dig hch] at q hy
  have hd : 48 ≤ chT T n a ∧ chT T n a ≤ 57 := by
    by_cases r : 48 ≤ chT T n a ∧ chT T n a ≤ 57
    · exact r
    · rw [if_neg r] at q
      exact absurd q (by decide)
  rw [if_pos hd] at hy
  have p4 := h.2.2.2.2.1
  have p1 := h.2.1
  have e : σ.2.1 135 ((σ.2.1 125 14).toNat) = chT T n a := by unfold chT; rw [if_pos ha, p4, show ((a : Nat) : Int).toNat = a by omega, h.2.2.2.2.2.1 a ha]
  rw [e, hv]
  obtain ⟨a1, a2⟩ := h.put (j := 15) (a' := a) (z := 10 * v + chT T n a - 48) (by omega) (by omega) h.2.2.1 (by rw [if_neg (by omega)]; exact p4.symm)
  have b4 := a1.2.2.2.2.1
  obtain ⟨b1, b2⟩ := a1.put (j := 14) (a' := a + 1) (z := (sI σ 125 15 (10 * v + chT T n a - 48)).2.1 125 14 + 1) (by omega) (by omega) (by omega) (by rw [if_pos rfl]; omega)
  have e16 : (sI (sI σ 125 15 (10 * v + chT T n a - 48)) 125 14 ((sI σ 125 15 (10 * v + chT T n a - 48)).2.1 125 14 + 1)).2.1 125 16 = c := by rw [sI_at, if_neg (by omega), sI_at, if_neg (by omega)]; exact hc
  obtain ⟨d1, d2⟩ := b1.put (j := 16) (a' := a + 1) (z := (sI (sI σ 125 15 (10 * v + chT T n a - 48)) 125 14 ((sI σ 125 15 (10 * v + chT T n a - 48)).2.1 125 14 + 1)).2.1 125 16 + 1) (by omega) (by omega) (by omega) (by rw [if_neg (by omega)]; exact b1.2.2.2.2.1.symm)
  refine ⟨by omega, by omega, by omega, by omega, by omega, hy _ d1 (DFnn_tr (DFnn_tr a2 b2) d2) ?_ ?_⟩
  · rw [sI_at, if_pos ⟨rfl, rfl⟩, e16]
  · rw [sI_at, if_neg (by omega), sI_at, if_neg (by omega), sI_at, if_pos ⟨rfl, rfl⟩]; omega
theorem n_number (h : PN T n a σ) (hy : (pNum T n a).1 = true → ∀ σ', PN T n (pNum T n a).2.1 σ' → Agk DFnn σ σ' → σ'.2.1 125 15 = (pNum T n a).2.2 → Q (some (vI (bB true))) σ') (hn : (pNum T n a).1 = false → ∀ σ', PN T n a σ' → Agk DFnn σ σ' → Q (some (vI (bB false))) σ') : CALL X (d + 1) (0, 0) MX11_isNumber [vP (some 125)] σ Q := by
  have e1 := plc_rng (chT T n a) digL 0
  have e2 := plc_rng (chT T n (a + 1)) digL 0
  simp only [List.length_cons, List.length_nil] at e1 e2
  unfold pNum at hy hn
  obtain ⟨a1, a2⟩ := h.put (j := 15) (a' := a) (z := 0) (by omega) (by omega) h.2.2.1 (by rw [if_neg (by omega)]; exact h.2.2.2.2.1.symm)
  obtain ⟨b1, b2⟩ := a1.put (j := 16) (a' := a) (z := 0) (by omega) (by omega) h.2.2.1 (by rw [if_neg (by omega)]; exact a1.2.2.2.2.1.symm)
  have A := DFnn_tr a2 b2
  refine C_X11_isNumber (d := d) h.1 (n_numStep (c := 0) (v := 0) b1 ?_ ?_ (Or.inl rfl) (by decide) (fun q _ => ?_) (fun _ q => absurd q (by decide)) (fun q σ1 g1 g2 g3 g4 => n_numStep (c := 1) (v := plc digL (chT T n a) 0) g1 g3 (by rw [g4]; omega) (Or.inr rfl) (by omega) (fun _ q => absurd q (by decide)) (fun r _ => ?_) (fun r σ2 f1 f2 f3 f4 => ?_)))
  · rw [sI_at, if_pos ⟨rfl, rfl⟩]
  · rw [sI_at, if_neg (by omega), sI_at, if_pos ⟨rfl, rfl⟩]
  · rw [if_neg q] at hn
    exact hn rfl _ b1 A
  · rw [if_pos q, if_neg r] at hy
    exact hy rfl _ g1 (DFnn_tr A g2) (by rw [g4]; show 10 * 0 + plc digL (chT T n a) 0 = plc digL (chT T n a) 0; omega)
  · rw [if_pos q, if_pos r] at hy
    have p15 := f3
    exact C_X11_isNumber_10 f1.1 ⟨fun _ => ⟨fun t => absurd t (by omega), fun _ => hy rfl _ f1 (DFnn_tr (DFnn_tr A g2) f2) f4⟩, fun t => absurd (show (2 : Int) ≤ σ2.2.1 125 16 by omega) t⟩
theorem pLit_y {c : Int} {L : List Int} (h : chT T n a = c) : pLit T n (c :: L) a = pLit T n L (a + 1) := by rw [pLit, if_pos h]
theorem pLit_n {c : Int} {L : List Int} (h : chT T n a ≠ c) : pLit T n (c :: L) a = (false, a) := by rw [pLit, if_neg h]
theorem n_litLoop {k : Nat} (hk : 1 ≤ k ∧ k ≤ 6) : ∀ (m i a : Nat) (σ : mS), i + m = (strB k).length → PN T n a σ → ((pLit T n ((strB k).drop i) a).1 = true → ∀ σ', PN T n (pLit T n ((strB k).drop i) a).2 σ' → Agk DFnn σ σ' → Q (some (vI (bB true))) σ') → ((pLit T n ((strB k).drop i) a).1 = false → ∀ σ', PN T n (pLit T n ((strB k).drop i) a).2 σ' → Agk DFnn σ σ' → Q (some (vI (bB false))) σ') → WP X (d + 4) (0, 0) MX11_isAll 2 [(0, vP (some 125)), (1, vO k), (2, vI (i : Int))] [] σ Q := by
  have hl := (strK_len hk).2
  intro m
  induction m with
  | zero =>
    intro i a σ hi h hy hn
    rw [List.drop_eq_nil_of_le (by omega)] at hy hn
    exact C_X11_isAll_2 (d := d + 3) h.1 hk (s_len (d := d + 2) hk ⟨_, rfl, h.1, by omega, by omega, fun _ => hy rfl σ h (Agk.rf h.1), fun q => absurd q (by omega)⟩)
  | succ m ih =>
    intro i a σ hi h hy hn
    obtain ⟨_, r⟩ := strK_at hk i (by omega)
    rw [strK_drop (k := k) (i := i) (by omega)] at hy hn
    refine C_X11_isAll_2 (d := d + 3) h.1 hk (s_len (d := d + 2) hk ⟨_, rfl, h.1, by omega, by omega, fun q => absurd q (by omega), fun _ => s_at (d := d) hk ⟨by omega, by omega⟩ ⟨_, rfl, h.1, ?_⟩⟩)
    rw [show ((i : Nat) : Int).toNat = i by omega]
    refine n_is (d := d + 3) h (by omega) (fun q σ' g1 g2 => ⟨true, rfl, g1.1, (fun q => nomatch q), fun _ => ?_⟩) (fun q => ⟨false, rfl, h.1, fun _ => ?_, (fun q => nomatch q)⟩)
    · rw [pLit_y q] at hy hn
      rw [show (i : Int) + 1 = ((i + 1 : Nat) : Int) by omega]
      exact ih (i + 1) (a + 1) σ' (by omega) g1 (fun u σ2 f1 f2 => hy u σ2 f1 (DFnn_tr g2 f2)) (fun u σ2 f1 f2 => hn u σ2 f1 (DFnn_tr g2 f2))
    · rw [pLit_n q] at hn
      exact hn rfl σ h (Agk.rf h.1)
theorem n_lits {k : Nat} (hk : 1 ≤ k ∧ k ≤ 6) (h : PN T n a σ) (hy : (pLit T n (strB k) a).1 = true → ∀ σ', PN T n (pLit T n (strB k) a).2 σ' → Agk DFnn σ σ' → Q (some (vI (bB true))) σ') (hn : (pLit T n (strB k) a).1 = false → ∀ σ', PN T n (pLit T n (strB k) a).2 σ' → Agk DFnn σ σ' → Q (some (vI (bB false))) σ') : CALL X (d + 4) (0, 0) MX11_isAll [vP (some 125), vO k] σ Q :=
  C_X11_isAll (d := d + 3) h.1 hk (n_litLoop hk (strB k).length 0 a σ (by omega) h hy hn)
end PNM
