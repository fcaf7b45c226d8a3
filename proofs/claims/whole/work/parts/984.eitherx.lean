/-! BORDER, 5: the class reads T and E (written by wip/whole/gen984.py) -/
section TEX
variable {X : mX} {d : Nat} {σ : mS} {Q : Option mV → mS → Prop} {T : Nat → Int} {n bb a : Nat} {C : List Int}
theorem XT_step {f : Nat} (hF : XF X T n bb f) (hL : XTL X T n bb f) : XT X T n bb (f + 1) := by
  intro D k a C σ Q hk hf hD h hok
  obtain ⟨d, rfl⟩ : ∃ d, D = d + 1 := ⟨D - 1, by omega⟩
  obtain ⟨hy, hn⟩ := hok
  simp only [pS] at hy hn
  have p2 := h.2.2.2.1
  refine C_X5_readBoth (d := d) h.1 (hF d k a C _ _ hk (by omega) (by omega) h ⟨fun σ' u g1 g2 => ?_, fun σ' C' u g1 g2 => ?_⟩)
  · rw [if_pos u] at hy hn
    obtain ⟨w1, w2, w3, w4, w5⟩ := pS_ok (T := T) (n := n) f 0 k a (by omega) u
    have w1 := w1 (by omega)
    have w3 := w3 p2
    refine ⟨true, rfl, g1.1, (fun q => nomatch q), fun _ => hL (d + 1) k _ 0 _ σ' Q hk (by omega) (by omega) (by omega) g1.2.2.2.2.2.2.2.2.2.2.1 g1 ⟨fun σ2 u2 f1 f2 => ?_, fun σ2 C2 u2 f1 f2 => ?_⟩⟩
    · refine hy σ2 u2 ?_ (g2.tr f2 (fun _ _ h => h) (fun _ _ h => h))
      rw [← List.append_assoc]
      exact f1
    · exact hn σ2 C2 u2 f1 (g2.tr f2 (fun _ _ h => h) (fun _ _ h => h))
  · rw [if_neg (by rw [u]; decide)] at hn
    exact ⟨false, rfl, g1.1, fun _ => hn σ' C' rfl g1 g2, (fun q => nomatch q)⟩
theorem XTL_step {f : Nat} (hF : XF X T n bb f) (hL : XTL X T n bb f) : XTL X T n bb (f + 1) := by
  intro D k a i C σ Q hk hf hD hia _ h hok
  obtain ⟨d, rfl⟩ : ∃ d, D = d + 2 := ⟨D - 2, by omega⟩
  obtain ⟨hy, hn⟩ := hok
  simp only [pS] at hy hn
  have p1 := h.2.2.1
  have p2 := h.2.2.2.1
  refine C_X5_readBoth_12 (d := d + 1) h.1 ⟨by omega, fun q => absurd q (by omega), fun _ => x_skip (d := d) h (by decide) (fun q σ1 e1 e2 => ⟨true, rfl, e1.1, (fun q => nomatch q), fun _ => ?_⟩) (fun q => ⟨false, rfl, h.1, fun _ => ?_, (fun q => nomatch q)⟩)⟩
  · have ha := chT_in (T := T) (n := n) (a := a) (by rw [q]; decide)
    rw [if_pos q] at hy hn
    refine hF (d + 1) k (a + 1) C _ _ hk (by omega) (by omega) e1 ⟨fun σ' u g1 g2 => ?_, fun σ' C' u g1 g2 => ?_⟩
    · rw [if_pos u] at hy hn
      obtain ⟨w1, w2, w3, w4, w5⟩ := pS_ok (T := T) (n := n) f 0 k (a + 1) (by omega) u
      have w1 := w1 (by omega)
      have w3 := w3 (by omega)
      have p9 := h.2.2.2.2.2.2.2.2.2.2.1
      refine ⟨true, rfl, g1.1, (fun q => nomatch q), fun _ => ⟨bb, g1.2.2.2.2.2.2.2.2.1, g1.2.1, x_addCode g1 (by rw [List.length_append]; omega) (by decide) (fun σ2 f1 f2 => ⟨rfl, f1.1, ?_⟩)⟩⟩
      have A := (e2.tr g2 (fun _ _ h => h) (fun _ _ h => h)).tr f2 (fun _ _ h => h) (fun _ _ h => h)
      rw [show (i : Int) + 1 = ((i + 1 : Nat) : Int) by omega]
      refine hL (d + 2) k _ (i + 1) _ σ2 Q hk (by omega) (by omega) (by omega) f1.2.2.2.2.2.2.2.2.2.2.1 f1 ⟨fun σ3 u2 r1 r2 => ?_, fun σ3 C2 u2 r1 r2 => ?_⟩
      · refine hy σ3 u2 ?_ (A.tr r2 (fun _ _ h => h) (fun _ _ h => h))
        simp only [List.append_assoc, List.cons_append, List.nil_append] at r1 ⊢
        exact r1
      · exact hn σ3 C2 u2 r1 (A.tr r2 (fun _ _ h => h) (fun _ _ h => h))
    · rw [if_neg (by rw [u]; decide)] at hn
      exact ⟨false, rfl, g1.1, fun _ => hn σ' C' rfl g1 (e2.tr g2 (fun _ _ h => h) (fun _ _ h => h)), (fun q => nomatch q)⟩
  · rw [if_neg q] at hy
    exact hy σ rfl (by simpa using h) (Agk.rf h.1)
theorem XE_step {f : Nat} (hF : XT X T n bb f) (hL : XEL X T n bb f) : XE X T n bb (f + 1) := by
  intro D k a C σ Q hk hf hD h hok
  obtain ⟨d, rfl⟩ : ∃ d, D = d + 1 := ⟨D - 1, by omega⟩
  obtain ⟨hy, hn⟩ := hok
  simp only [pS] at hy hn
  have p2 := h.2.2.2.1
  refine C_X5_readEither (d := d) h.1 (hF d k a C _ _ hk (by omega) (by omega) h ⟨fun σ' u g1 g2 => ?_, fun σ' C' u g1 g2 => ?_⟩)
  · rw [if_pos u] at hy hn
    obtain ⟨w1, w2, w3, w4, w5⟩ := pS_ok (T := T) (n := n) f 1 k a (by omega) u
    have w1 := w1 (by omega)
    have w3 := w3 p2
    refine ⟨true, rfl, g1.1, (fun q => nomatch q), fun _ => hL (d + 1) k _ 0 _ σ' Q hk (by omega) (by omega) (by omega) g1.2.2.2.2.2.2.2.2.2.2.1 g1 ⟨fun σ2 u2 f1 f2 => ?_, fun σ2 C2 u2 f1 f2 => ?_⟩⟩
    · refine hy σ2 u2 ?_ (g2.tr f2 (fun _ _ h => h) (fun _ _ h => h))
      rw [← List.append_assoc]
      exact f1
    · exact hn σ2 C2 u2 f1 (g2.tr f2 (fun _ _ h => h) (fun _ _ h => h))
  · rw [if_neg (by rw [u]; decide)] at hn
    exact ⟨false, rfl, g1.1, fun _ => hn σ' C' rfl g1 g2, (fun q => nomatch q)⟩
theorem XEL_step {f : Nat} (hF : XT X T n bb f) (hL : XEL X T n bb f) : XEL X T n bb (f + 1) := by
  intro D k a i C σ Q hk hf hD hia _ h hok
  obtain ⟨d, rfl⟩ : ∃ d, D = d + 2 := ⟨D - 2, by omega⟩
  obtain ⟨hy, hn⟩ := hok
  simp only [pS] at hy hn
  have p1 := h.2.2.1
  have p2 := h.2.2.2.1
  refine C_X5_readEither_12 (d := d + 1) h.1 ⟨by omega, fun q => absurd q (by omega), fun _ => x_skip (d := d) h (by decide) (fun q σ1 e1 e2 => ⟨true, rfl, e1.1, (fun q => nomatch q), fun _ => ?_⟩) (fun q => ⟨false, rfl, h.1, fun _ => ?_, (fun q => nomatch q)⟩)⟩
  · have ha := chT_in (T := T) (n := n) (a := a) (by rw [q]; decide)
    rw [if_pos q] at hy hn
    refine hF (d + 1) k (a + 1) C _ _ hk (by omega) (by omega) e1 ⟨fun σ' u g1 g2 => ?_, fun σ' C' u g1 g2 => ?_⟩
    · rw [if_pos u] at hy hn
      obtain ⟨w1, w2, w3, w4, w5⟩ := pS_ok (T := T) (n := n) f 1 k (a + 1) (by omega) u
      have w1 := w1 (by omega)
      have w3 := w3 (by omega)
      have p9 := h.2.2.2.2.2.2.2.2.2.2.1
      refine ⟨true, rfl, g1.1, (fun q => nomatch q), fun _ => ⟨bb, g1.2.2.2.2.2.2.2.2.1, g1.2.1, x_addCode g1 (by rw [List.length_append]; omega) (by decide) (fun σ2 f1 f2 => ⟨rfl, f1.1, ?_⟩)⟩⟩
      have A := (e2.tr g2 (fun _ _ h => h) (fun _ _ h => h)).tr f2 (fun _ _ h => h) (fun _ _ h => h)
      rw [show (i : Int) + 1 = ((i + 1 : Nat) : Int) by omega]
      refine hL (d + 2) k _ (i + 1) _ σ2 Q hk (by omega) (by omega) (by omega) f1.2.2.2.2.2.2.2.2.2.2.1 f1 ⟨fun σ3 u2 r1 r2 => ?_, fun σ3 C2 u2 r1 r2 => ?_⟩
      · refine hy σ3 u2 ?_ (A.tr r2 (fun _ _ h => h) (fun _ _ h => h))
        simp only [List.append_assoc, List.cons_append, List.nil_append] at r1 ⊢
        exact r1
      · exact hn σ3 C2 u2 r1 (A.tr r2 (fun _ _ h => h) (fun _ _ h => h))
    · rw [if_neg (by rw [u]; decide)] at hn
      exact ⟨false, rfl, g1.1, fun _ => hn σ' C' rfl g1 (e2.tr g2 (fun _ _ h => h) (fun _ _ h => h)), (fun q => nomatch q)⟩
  · rw [if_neg q] at hy
    exact hy σ rfl (by simpa using h) (Agk.rf h.1)
theorem x_all : ∀ f, XF X T n bb f ∧ XT X T n bb f ∧ XE X T n bb f ∧ XTL X T n bb f ∧ XEL X T n bb f
  | 0 => ⟨fun _ _ _ _ _ _ _ hf => absurd hf (by omega), fun _ _ _ _ _ _ _ hf => absurd hf (by omega), fun _ _ _ _ _ _ _ hf => absurd hf (by omega), fun _ _ _ _ _ _ _ _ hf => absurd hf (by omega), fun _ _ _ _ _ _ _ _ hf => absurd hf (by omega)⟩
  | f + 1 =>
    have h := x_all f
    ⟨XF_step h.1 h.2.2.1, XT_step h.1 h.2.2.2.1, XE_step h.2.1 h.2.2.2.2, XTL_step h.1 h.2.2.2.1, XEL_step h.2.1 h.2.2.2.2⟩
/-- E of a judgement, in the class -/
theorem x_either {D : Nat} (hD : 21 ≤ D) (h : PX T n bb a C σ) (hok : okX T n bb (4 * n + 3) 2 0 a C σ Q) : CALL X D (0, 0) MX5_readEither [vP (some 121), vI 0] σ Q :=
  (x_all (4 * n + 3)).2.2.1 D 0 a C σ Q (by omega) (by omega) (by omega) h hok
end TEX
