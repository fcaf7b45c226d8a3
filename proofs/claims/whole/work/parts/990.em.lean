/-! BORDER, 11: the reference reads T and E (written by wip/whole/gen990.py) -/
section TEM
variable {X : mX} {d : Nat} {σ : mS} {Q : Option mV → mS → Prop} {T : Nat → Int} {n c0 k a : Nat} {C : List Int}
def MT (X : mX) (T : Nat → Int) (n c0 f : Nat) : Prop := ∀ (D k a : Nat) (C : List Int) (σ : mS) (Q : Option mV → mS → Prop), k ≤ 4 → 4 * (n - a) + 2 ≤ f → 8 + 3 * (4 - k) ≤ D → PM T n c0 k a C σ → okM T n c0 f 1 k a σ C Q → CALL X D (0, 0) MX11_isT [vP (some 125)] σ Q
def MTL (X : mX) (T : Nat → Int) (n c0 f : Nat) : Prop := ∀ (D k a : Nat) (C : List Int) (σ : mS) (Q : Option mV → mS → Prop), k ≤ 4 → 4 * (n - a) + 1 ≤ f → 8 + 3 * (4 - k) ≤ D → PM T n c0 k a C σ → okM T n c0 f 3 k a σ C Q → WP X D (0, 0) MX11_isT 9 [(0, vP (some 125))] [] σ Q
def MEL (X : mX) (T : Nat → Int) (n c0 f : Nat) : Prop := ∀ (D k a : Nat) (C : List Int) (σ : mS) (Q : Option mV → mS → Prop), k ≤ 4 → 4 * (n - a) + 1 ≤ f → 9 + 3 * (4 - k) ≤ D → PM T n c0 k a C σ → okM T n c0 f 4 k a σ C Q → WP X D (0, 0) MX11_isE 9 [(0, vP (some 125))] [] σ Q
theorem MT_step {f : Nat} (hF : MF X T n c0 f) (hL : MTL X T n c0 f) : MT X T n c0 (f + 1) := by
  intro D k a C σ Q hk hf hD h hok
  obtain ⟨d, rfl⟩ : ∃ d, D = d + 1 := ⟨D - 1, by omega⟩
  obtain ⟨hy, hn⟩ := hok
  simp only [pS] at hy hn
  have p2 := h.2.2.1
  refine C_X11_isT (d := d) h.1 (hF d k a C _ _ hk (by omega) (by omega) h ⟨fun σ' u g1 g2 => ?_, fun σ' C' u g1 g2 => ?_⟩)
  · rw [if_pos u] at hy hn
    obtain ⟨w1, w2, w3, w4, w5⟩ := pS_ok (T := T) (n := n) f 0 k a (by omega) u
    have w1 := w1 (by omega)
    have w3 := w3 p2
    refine ⟨true, rfl, g1.1, (fun q => nomatch q), fun _ => hL (d + 1) k _ _ σ' Q hk (by omega) (by omega) g1 ⟨fun σ2 u2 f1 f2 => ?_, fun σ2 C2 u2 f1 f2 => ?_⟩⟩
    · refine hy σ2 u2 ?_ (g2.tr f2 (fun _ _ h => h) (fun _ _ h => h))
      rw [← List.append_assoc]
      exact f1
    · exact hn σ2 C2 u2 f1 (g2.tr f2 (fun _ _ h => h) (fun _ _ h => h))
  · rw [if_neg (by rw [u]; decide)] at hn
    exact ⟨false, rfl, g1.1, fun _ => hn σ' C' rfl g1 g2, (fun q => nomatch q)⟩
theorem MTL_step {f : Nat} (hF : MF X T n c0 f) (hL : MTL X T n c0 f) : MTL X T n c0 (f + 1) := by
  intro D k a C σ Q hk hf hD h hok
  obtain ⟨d, rfl⟩ : ∃ d, D = d + 1 := ⟨D - 1, by omega⟩
  obtain ⟨hy, hn⟩ := hok
  simp only [pS] at hy hn
  have p2 := h.2.2.1
  refine C_X11_isT_9 (d := d) h.1 (m_is h (by decide) (fun q σ1 e1 e2 => ⟨true, rfl, e1.1, (fun q => nomatch q), fun _ => ?_⟩) (fun q => ⟨false, rfl, h.1, fun _ => ?_, (fun q => nomatch q)⟩))
  · have ha := chT_in (T := T) (n := n) (a := a) (by rw [q]; decide)
    rw [if_pos q] at hy hn
    refine hF d k (a + 1) C _ _ hk (by omega) (by omega) e1 ⟨fun σ' u g1 g2 => ?_, fun σ' C' u g1 g2 => ?_⟩
    · rw [if_pos u] at hy hn
      obtain ⟨w1, w2, w3, w4, w5⟩ := pS_ok (T := T) (n := n) f 0 k (a + 1) (by omega) u
      have w1 := w1 (by omega)
      have w3 := w3 (by omega)
      have p9 := h.2.2.2.2.2.2.2.2.2.1
      refine ⟨true, rfl, g1.1, (fun q => nomatch q), fun _ => m_codes g1 (by rw [List.length_append]; omega) (by decide) (fun σ2 f1 f2 => ⟨true, rfl, f1.1, (fun q => nomatch q), fun _ => ?_⟩)⟩
      have A := (e2.tr g2 (fun _ _ h => h) (fun _ _ h => h)).tr f2 (fun _ _ h => h) (fun _ _ h => h)
      refine hL (d + 1) k _ _ σ2 Q hk (by omega) (by omega) f1 ⟨fun σ3 u2 r1 r2 => ?_, fun σ3 C2 u2 r1 r2 => ?_⟩
      · refine hy σ3 u2 ?_ (A.tr r2 (fun _ _ h => h) (fun _ _ h => h))
        simp only [List.append_assoc, List.cons_append, List.nil_append] at r1 ⊢
        exact r1
      · exact hn σ3 C2 u2 r1 (A.tr r2 (fun _ _ h => h) (fun _ _ h => h))
    · rw [if_neg (by rw [u]; decide)] at hn
      exact ⟨false, rfl, g1.1, fun _ => hn σ' C' rfl g1 (e2.tr g2 (fun _ _ h => h) (fun _ _ h => h)), (fun q => nomatch q)⟩
  · rw [if_neg q] at hy
    exact hy σ rfl (by simpa using h) (Agk.rf h.1)
theorem ME_step {f : Nat} (hF : MT X T n c0 f) (hL : MEL X T n c0 f) : ME X T n c0 (f + 1) := by
  intro D k a C σ Q hk hf hD h hok
  obtain ⟨d, rfl⟩ : ∃ d, D = d + 1 := ⟨D - 1, by omega⟩
  obtain ⟨hy, hn⟩ := hok
  simp only [pS] at hy hn
  have p2 := h.2.2.1
  refine C_X11_isE (d := d) h.1 (hF d k a C _ _ hk (by omega) (by omega) h ⟨fun σ' u g1 g2 => ?_, fun σ' C' u g1 g2 => ?_⟩)
  · rw [if_pos u] at hy hn
    obtain ⟨w1, w2, w3, w4, w5⟩ := pS_ok (T := T) (n := n) f 1 k a (by omega) u
    have w1 := w1 (by omega)
    have w3 := w3 p2
    refine ⟨true, rfl, g1.1, (fun q => nomatch q), fun _ => hL (d + 1) k _ _ σ' Q hk (by omega) (by omega) g1 ⟨fun σ2 u2 f1 f2 => ?_, fun σ2 C2 u2 f1 f2 => ?_⟩⟩
    · refine hy σ2 u2 ?_ (g2.tr f2 (fun _ _ h => h) (fun _ _ h => h))
      rw [← List.append_assoc]
      exact f1
    · exact hn σ2 C2 u2 f1 (g2.tr f2 (fun _ _ h => h) (fun _ _ h => h))
  · rw [if_neg (by rw [u]; decide)] at hn
    exact ⟨false, rfl, g1.1, fun _ => hn σ' C' rfl g1 g2, (fun q => nomatch q)⟩
theorem MEL_step {f : Nat} (hF : MT X T n c0 f) (hL : MEL X T n c0 f) : MEL X T n c0 (f + 1) := by
  intro D k a C σ Q hk hf hD h hok
  obtain ⟨d, rfl⟩ : ∃ d, D = d + 1 := ⟨D - 1, by omega⟩
  obtain ⟨hy, hn⟩ := hok
  simp only [pS] at hy hn
  have p2 := h.2.2.1
  refine C_X11_isE_9 (d := d) h.1 (m_is h (by decide) (fun q σ1 e1 e2 => ⟨true, rfl, e1.1, (fun q => nomatch q), fun _ => ?_⟩) (fun q => ⟨false, rfl, h.1, fun _ => ?_, (fun q => nomatch q)⟩))
  · have ha := chT_in (T := T) (n := n) (a := a) (by rw [q]; decide)
    rw [if_pos q] at hy hn
    refine hF d k (a + 1) C _ _ hk (by omega) (by omega) e1 ⟨fun σ' u g1 g2 => ?_, fun σ' C' u g1 g2 => ?_⟩
    · rw [if_pos u] at hy hn
      obtain ⟨w1, w2, w3, w4, w5⟩ := pS_ok (T := T) (n := n) f 1 k (a + 1) (by omega) u
      have w1 := w1 (by omega)
      have w3 := w3 (by omega)
      have p9 := h.2.2.2.2.2.2.2.2.2.1
      refine ⟨true, rfl, g1.1, (fun q => nomatch q), fun _ => m_codes g1 (by rw [List.length_append]; omega) (by decide) (fun σ2 f1 f2 => ⟨true, rfl, f1.1, (fun q => nomatch q), fun _ => ?_⟩)⟩
      have A := (e2.tr g2 (fun _ _ h => h) (fun _ _ h => h)).tr f2 (fun _ _ h => h) (fun _ _ h => h)
      refine hL (d + 1) k _ _ σ2 Q hk (by omega) (by omega) f1 ⟨fun σ3 u2 r1 r2 => ?_, fun σ3 C2 u2 r1 r2 => ?_⟩
      · refine hy σ3 u2 ?_ (A.tr r2 (fun _ _ h => h) (fun _ _ h => h))
        simp only [List.append_assoc, List.cons_append, List.nil_append] at r1 ⊢
        exact r1
      · exact hn σ3 C2 u2 r1 (A.tr r2 (fun _ _ h => h) (fun _ _ h => h))
    · rw [if_neg (by rw [u]; decide)] at hn
      exact ⟨false, rfl, g1.1, fun _ => hn σ' C' rfl g1 (e2.tr g2 (fun _ _ h => h) (fun _ _ h => h)), (fun q => nomatch q)⟩
  · rw [if_neg q] at hy
    exact hy σ rfl (by simpa using h) (Agk.rf h.1)
theorem m_all : ∀ f, MF X T n c0 f ∧ MT X T n c0 f ∧ ME X T n c0 f ∧ MTL X T n c0 f ∧ MEL X T n c0 f
  | 0 => ⟨fun _ _ _ _ _ _ _ hf => absurd hf (by omega), fun _ _ _ _ _ _ _ hf => absurd hf (by omega), fun _ _ _ _ _ _ _ hf => absurd hf (by omega), fun _ _ _ _ _ _ _ hf => absurd hf (by omega), fun _ _ _ _ _ _ _ hf => absurd hf (by omega)⟩
  | f + 1 =>
    have h := m_all f
    ⟨MF_step h.1 h.2.2.1, MT_step h.1 h.2.2.2.1, ME_step h.2.1 h.2.2.2.2, MTL_step h.1 h.2.2.2.1, MEL_step h.2.1 h.2.2.2.2⟩
theorem m_either {D : Nat} (hD : 21 ≤ D) (h : PM T n c0 0 a C σ) (hok : okM T n c0 (4 * n + 3) 2 0 a σ C Q) : CALL X D (0, 0) MX11_isE [vP (some 125)] σ Q :=
  (m_all (4 * n + 3)).2.2.1 D 0 a C σ Q (by omega) (by omega) (by omega) h hok
end TEM
