/-! BORDER, 6: the reference's reader: signs, codes, what is open -/
def PM (T : Nat → Int) (n c0 k a : Nat) (C : List Int) (σ : mS) : Prop :=
  Sh σ ∧ (n ≤ 100 ∧ c0 ≤ 600 ∧ k ≤ 4) ∧ a ≤ n ∧ σ.2.1 125 12 = n ∧ σ.2.1 125 14 = a ∧ σ.2.1 125 17 = k ∧ (∀ i, i < n → σ.2.1 135 i = T i) ∧ (∀ i, i < n → 0 ≤ T i ∧ T i ≤ 127) ∧ σ.2.1 125 26 = ((c0 + C.length : Nat) : Int) ∧ C.length ≤ a ∧ ∀ j, j < C.length → σ.2.1 141 (c0 + j) = C.getD j 0
def DFm (c0 : Nat) : Nat → Nat → Prop := fun a k => (a = 125 ∧ ((14 ≤ k ∧ k ≤ 17) ∨ k = 26)) ∨ (a = 141 ∧ c0 ≤ k)
section READM
variable {X : mX} {d : Nat} {σ : mS} {Q : Option mV → mS → Prop} {T : Nat → Int} {n c0 k a : Nat} {C : List Int}
theorem PM.ch (h : PM T n c0 k a C σ) : chT T n a = -1 ∨ (0 ≤ chT T n a ∧ chT T n a ≤ 127) := by
  unfold chT
  by_cases ha : a < n
  · rw [if_pos ha]; exact Or.inr (h.2.2.2.2.2.2.2.1 a ha)
  · rw [if_neg ha]; exact Or.inl rfl
theorem PM.put (h : PM T n c0 k a C σ) {j k' a' : Nat} {z : Int} (hj : 14 ≤ j ∧ j ≤ 17) (hz : -1 ≤ z ∧ z ≤ 2000) (hk : k' ≤ 4) (h1 : a' ≤ n) (h2 : C.length ≤ a') (e14 : (a' : Int) = if 14 = j then z else σ.2.1 125 14) (e17 : (k' : Int) = if 17 = j then z else σ.2.1 125 17) : PM T n c0 k' a' C (sI σ 125 j z) ∧ Agk (DFm c0) σ (sI σ 125 j z) := by
  obtain ⟨hs, ⟨p1, p1', p1''⟩, p2, p3, p4, p5, p6, p7, p8, p9, p10⟩ := h
  have hs' : Sh (sI σ 125 j z) := sh_I hs (by omega) (hs.k (a := 125) rfl) (Or.inl (by decide))
  refine ⟨⟨hs', ⟨p1, p1', hk⟩, h1, ?_, ?_, ?_, fun i hi => ?_, p7, ?_, h2, fun i hi => ?_⟩, (Agk.rf hs).sI hs' (Or.inl ⟨rfl, Or.inl hj⟩)⟩
  · rw [sI_at, if_neg (by omega)]; exact p3
  · rw [sI_at, e14]; simp
  · rw [sI_at, e17]; simp
  · rw [sI_at, if_neg (by omega)]; exact p6 i hi
  · rw [sI_at, if_neg (by omega)]; exact p8
  · rw [sI_at, if_neg (by omega)]; exact p10 i hi
theorem m_is (h : PM T n c0 k a C σ) {c : Int} (hc : 0 ≤ c ∧ c ≤ 127) (hy : chT T n a = c → ∀ σ', PM T n c0 k (a + 1) C σ' → Agk (DFm c0) σ σ' → Q (some (vI (bB true))) σ') (hn : chT T n a ≠ c → Q (some (vI (bB false))) σ) : CALL X d (0, 0) MX11_is [vP (some 125), vI c] σ Q := by
  have hh := h
  obtain ⟨hs, ⟨p1, p1', p1''⟩, p2, p3, p4, p5, p6, p7, p8, p9, p10⟩ := h
  have e : a < n → chT T n a = T a := fun q => by unfold chT; rw [if_pos q]
  refine C_X11_is hs ⟨fun q => hn ?_, fun q => ⟨by omega, by omega, by omega, fun r => ⟨by omega, ?_⟩, fun r => hn ?_⟩⟩
  · unfold chT; rw [if_neg (by omega)]; omega
  · rw [p4, show ((a : Nat) : Int).toNat = a by omega, p6 a (by omega)] at r
    obtain ⟨k1, k2⟩ := hh.put (j := 14) (k' := k) (a' := a + 1) (z := (σ.2.1 125 14) + 1) (by omega) (by omega) p1'' (by omega) (by omega) (by rw [if_pos rfl]; omega) (by rw [if_neg (by omega)]; omega)
    exact hy (by rw [e (by omega)]; exact r) _ k1 k2
  · rw [p4, show ((a : Nat) : Int).toNat = a by omega, p6 a (by omega)] at r
    rw [e (by omega)]
    exact r
theorem m_codes (h : PM T n c0 k a C σ) (hl : C.length < a) {c : Int} (hc : -2147483648 ≤ c ∧ c ≤ 2147483647) (hQ : ∀ σ', PM T n c0 k a (C ++ [c]) σ' → Agk (DFm c0) σ σ' → Q (some (vI (bB true))) σ') : CALL X d (0, 0) MX11_codes [vP (some 125), vI c] σ Q := by
  obtain ⟨hs, ⟨p1, p1', p1''⟩, p2, p3, p4, p5, p6, p7, p8, p9, p10⟩ := h
  have s1 : Sh (sI σ 125 26 ((σ.2.1 125 26) + 1)) := sh_I hs (by omega) (hs.k (a := 125) rfl) (Or.inl (by decide))
  have s2 : Sh (sI (sI σ 125 26 ((σ.2.1 125 26) + 1)) 141 ((σ.2.1 125 26).toNat) c) := sh_I s1 hc (s1.k (a := 141) rfl) (Or.inl (by decide))
  refine C_X11_codes hs ⟨by omega, by omega, by omega, hc, ?_⟩
  refine hQ _ ⟨s2, ⟨p1, p1', p1''⟩, p2, ?_, ?_, ?_, fun i hi => ?_, p7, ?_, by rw [List.length_append]; simp only [List.length_cons, List.length_nil]; omega, fun j hj => ?_⟩ (((Agk.rf hs).sI s1 (Or.inl ⟨rfl, Or.inr rfl⟩)).sI s2 (Or.inr ⟨rfl, by omega⟩))
  · rw [sI_at, if_neg (by omega), sI_at, if_neg (by omega)]; exact p3
  · rw [sI_at, if_neg (by omega), sI_at, if_neg (by omega)]; exact p4
  · rw [sI_at, if_neg (by omega), sI_at, if_neg (by omega)]; exact p5
  · rw [sI_at, if_neg (by omega), sI_at, if_neg (by omega)]; exact p6 i hi
  · rw [sI_at, if_neg (by omega), sI_at, if_pos ⟨rfl, rfl⟩, List.length_append]; simp only [List.length_cons, List.length_nil]; omega
  · rw [sI_at]
    rw [List.length_append] at hj
    simp only [List.length_cons, List.length_nil] at hj
    by_cases hjl : j < C.length
    · rw [if_neg (by omega), sI_at, if_neg (by omega), p10 j hjl, List.getD_eq_getElem?_getD, List.getD_eq_getElem?_getD, List.getElem?_append_left hjl]
    · rw [if_pos ⟨rfl, by omega⟩, List.getD_eq_getElem?_getD, List.getElem?_append_right (by omega), show j - C.length = 0 by omega]
      rfl
theorem m_opened (h : PM T n c0 k a C σ) {c : Int} (hc : 0 ≤ c ∧ c ≤ 127) (hy : chT T n a = c → k < 4 → ∀ σ', PM T n c0 (k + 1) (a + 1) C σ' → Agk (DFm c0) σ σ' → Q (some (vI (bB true))) σ') (hn : chT T n a ≠ c ∨ ¬ k < 4 → Q (some (vI (bB false))) σ) : CALL X (d + 1) (0, 0) MX11_isOpened [vP (some 125), vI c] σ Q := by
  have p5 := h.2.2.2.2.2.1
  have pk := h.2.1.2.2
  refine C_X11_isOpened h.1 ⟨fun q => hn (Or.inr (by omega)), fun q => m_is h hc (fun u σ' g1 g2 => ⟨true, rfl, g1.1, (fun q => nomatch q), fun _ => ?_⟩) (fun u => ⟨false, rfl, h.1, fun _ => hn (Or.inl u), (fun q => nomatch q)⟩)⟩
  have g5 := g1.2.2.2.2.2.1
  obtain ⟨k1, k2⟩ := g1.put (j := 17) (k' := k + 1) (a' := a + 1) (z := (σ'.2.1 125 17) + 1) (by omega) (by omega) (by omega) g1.2.2.1 g1.2.2.2.2.2.2.2.2.2.1 (by rw [if_neg (by omega)]; exact g1.2.2.2.2.1.symm) (by rw [if_pos rfl]; omega)
  exact ⟨by omega, hy u (by omega) _ k1 (g2.tr k2 (fun _ _ h => h) (fun _ _ h => h))⟩
end READM
