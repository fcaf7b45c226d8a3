/-! BORDER, 5: the class reads E, its Ts and their Fs in one loop -/
section TEX
variable {X : mX} {d : Nat} {σ : mS} {Q : Option mV → mS → Prop} {T : Nat → Int} {n bb a : Nat} {C : List Int}
theorem XT1_step {f : Nat} (hF : XF X T n bb f) (hL : XT3 X T n bb f) : XT1 X T n bb (f + 1) := by
  intro d k a i o C σ Q hk hf hd hi hl h hok
  obtain ⟨hy, hn⟩ := hok
  simp only [pS] at hy hn
  have p1 := h.2.2.1
  have p2 := h.2.2.2.1
  have t1 : ∀ {a b c : mS}, Agk (DFx bb) a b → Agk (DFx bb) b c → Agk (DFx bb) a c := fun x y => x.tr y (fun _ _ h => h) (fun _ _ h => h)
  refine C_X5_readEither_7 (d := d) h.1 ⟨by omega, fun q => absurd q (by omega), fun _ => hF d k a C _ _ hk (by omega) (by omega) h ⟨fun σ' u g1 g2 => ?_, fun σ' C' u g1 g2 => ?_⟩⟩
  · rw [if_pos u] at hy hn
    obtain ⟨w1, w2, w3, w4, w5⟩ := pS_ok (T := T) (n := n) f 0 k a (by omega) u
    have w1 := w1 (by omega)
    have w3 := w3 p2
    refine ⟨true, rfl, g1.1, (fun q => nomatch q), fun _ => ⟨bB_r, fun _ => ?_, fun q => absurd rfl q⟩⟩
    refine hL d k _ i o _ σ' Q hk (by omega) (by omega) (by omega) (by rw [List.length_append]; omega) g1 ⟨fun σ2 j u2 hj f1 f2 => ?_, fun σ2 C2 u2 f1 f2 => ?_⟩
    · refine hy σ2 j u2 hj ?_ (t1 g2 f2)
      rw [← List.append_assoc]
      exact f1
    · exact hn σ2 C2 u2 f1 (t1 g2 f2)
  · rw [if_neg (by rw [u]; decide)] at hn
    exact ⟨false, rfl, g1.1, fun _ => hn σ' C' rfl g1 g2, (fun q => nomatch q)⟩
theorem XT3_step {f : Nat} (hF : XF X T n bb f) (hL : XT3 X T n bb f) : XT3 X T n bb (f + 1) := by
  intro d k a i o C σ Q hk hf hd hi hl h hok
  obtain ⟨d, rfl⟩ : ∃ d', d = d' + 1 := ⟨d - 1, by omega⟩
  obtain ⟨hy, hn⟩ := hok
  simp only [pS] at hy hn
  have p1 := h.2.2.1
  have p2 := h.2.2.2.1
  have t1 : ∀ {a b c : mS}, Agk (DFx bb) a b → Agk (DFx bb) b c → Agk (DFx bb) a c := fun x y => x.tr y (fun _ _ h => h) (fun _ _ h => h)
  unfold SK1
  refine x_skip (d := d) h (by decide) (fun q σ1 e1 e2 => ⟨true, rfl, e1.1, (fun q => nomatch q), fun _ => ?_⟩) (fun q => ⟨false, rfl, h.1, fun _ => ?_, (fun q => nomatch q)⟩)
  · have ha := chT_in (T := T) (n := n) (a := a) (by rw [q]; decide)
    rw [if_pos q] at hy hn
    rw [show (i : Int) + 1 = ((i + 1 : Nat) : Int) by omega]
    refine C_X5_readEither_7 (d := d + 1) e1.1 ⟨by omega, fun q => absurd q (by omega), fun _ => hF (d + 1) k (a + 1) C _ _ hk (by omega) (by omega) e1 ⟨fun σ' u g1 g2 => ?_, fun σ' C' u g1 g2 => ?_⟩⟩
    · rw [if_pos u] at hy hn
      obtain ⟨w1, w2, w3, w4, w5⟩ := pS_ok (T := T) (n := n) f 0 k (a + 1) (by omega) u
      have w1 := w1 (by omega)
      have w3 := w3 (by omega)
      refine ⟨true, rfl, g1.1, (fun q => nomatch q), fun _ => ⟨bB_r, fun q => absurd q (by decide), fun _ => ⟨bb, g1.2.2.2.2.2.2.2.2.1, g1.2.1, x_addCode g1 (by rw [List.length_append]; omega) (by decide) (fun σ2 f1 f2 => ⟨rfl, f1.1, ?_⟩)⟩⟩⟩
      have A := t1 (t1 e2 g2) f2
      refine hL (d + 1) k _ (i + 1) o _ σ2 Q hk (by omega) (by omega) (by omega) (by rw [List.length_append, List.length_append]; simp only [List.length_cons, List.length_nil]; omega) f1 ⟨fun σ3 j u2 hj r1 r2 => ?_, fun σ3 C2 u2 r1 r2 => ?_⟩
      · refine hy σ3 j u2 hj ?_ (t1 A r2)
        simp only [List.append_assoc, List.cons_append, List.nil_append] at r1 ⊢
        exact r1
      · exact hn σ3 C2 u2 r1 (t1 A r2)
    · rw [if_neg (by rw [u]; decide)] at hn
      exact ⟨false, rfl, g1.1, fun _ => hn σ' C' rfl g1 (t1 e2 g2), (fun q => nomatch q)⟩
  · rw [if_neg q] at hy
    exact hy σ i rfl hi (by simpa using h) (Agk.rf h.1)
theorem XT4_step {f : Nat} (hT : XT1 X T n bb f) (hL : XT4 X T n bb f) : XT4 X T n bb (f + 1) := by
  intro d k a i o C σ Q hk hf hd hi hl h hok
  obtain ⟨d, rfl⟩ : ∃ d', d = d' + 1 := ⟨d - 1, by omega⟩
  obtain ⟨hy, hn⟩ := hok
  simp only [pS] at hy hn
  have p1 := h.2.2.1
  have p2 := h.2.2.2.1
  have t1 : ∀ {a b c : mS}, Agk (DFx bb) a b → Agk (DFx bb) b c → Agk (DFx bb) a c := fun x y => x.tr y (fun _ _ h => h) (fun _ _ h => h)
  have sk : ∀ σa : mS, PX T n bb a (C ++ (if o = true then [2] else [])) σa → Agk (DFx bb) σ σa → SK2 X (d + 1) k i false Q σa := by
    intro σa hb hA
    have p9 := hb.2.2.2.2.2.2.2.2.2.2.1
    unfold SK2
    refine x_skip (d := d) hb (by decide) (fun q σ1 e1 e2 => ⟨true, rfl, e1.1, (fun q => nomatch q), fun _ => ?_⟩) (fun q => ⟨false, rfl, hb.1, fun _ => ?_, (fun q => nomatch q)⟩)
    · have ha := chT_in (T := T) (n := n) (a := a) (by rw [q]; decide)
      rw [if_pos q] at hy hn
      rw [show (i : Int) + 1 = ((i + 1 : Nat) : Int) by omega]
      refine hT (d + 1) k (a + 1) (i + 1) true _ σ1 Q hk (by omega) (by omega) (by omega) (by show _ + 1 ≤ a + 1; omega) e1 ⟨fun σ' j u hj g1 g2 => ?_, fun σ' C' u g1 g2 => ?_⟩
      · rw [if_pos u] at hy hn
        obtain ⟨w1, w2, w3, w4, w5⟩ := pS_ok (T := T) (n := n) f 1 k (a + 1) (by omega) u
        have w1 := w1 (by omega)
        have w3 := w3 (by omega)
        refine hL (d + 1) k _ j true _ σ' Q hk (by omega) (by omega) hj (by rw [List.length_append]; show _ + _ + 1 ≤ _; omega) g1 ⟨fun σ2 u2 r1 r2 => ?_, fun σ2 C2 u2 r1 r2 => ?_⟩
        · refine hy σ2 u2 ?_ (t1 (t1 (t1 hA e2) g2) r2)
          simp only [List.append_assoc, List.cons_append, List.nil_append, if_true] at r1 ⊢
          exact r1
        · exact hn σ2 C2 u2 r1 (t1 (t1 (t1 hA e2) g2) r2)
      · rw [if_neg (by rw [u]; decide)] at hn
        exact hn σ' C' rfl g1 (t1 (t1 hA e2) g2)
    · rw [if_neg q] at hy
      refine hy σa rfl ?_ hA
      rw [List.append_nil]
      exact hb
  cases o with
  | false => exact ⟨bB_r, fun _ => sk σ (by simpa using h) (Agk.rf h.1), fun q => absurd rfl q⟩
  | true =>
    have hl : C.length + 1 ≤ a := hl
    exact ⟨bB_r, fun q => absurd q (by decide), fun _ => ⟨bb, h.2.2.2.2.2.2.2.2.1, h.2.1, x_addCode h (by omega) (by decide) (fun σ2 f1 f2 => ⟨rfl, f1.1, sk σ2 f1 f2⟩)⟩⟩
theorem XE_step {f : Nat} (hT : XT1 X T n bb f) (hL : XT4 X T n bb f) : XE X T n bb (f + 1) := by
  intro D k a C σ Q hk hf hD h hok
  obtain ⟨d, rfl⟩ : ∃ d, D = d + 1 := ⟨D - 1, by omega⟩
  obtain ⟨hy, hn⟩ := hok
  simp only [pS] at hy hn
  have p2 := h.2.2.2.1
  have p9 := h.2.2.2.2.2.2.2.2.2.2.1
  have t1 : ∀ {a b c : mS}, Agk (DFx bb) a b → Agk (DFx bb) b c → Agk (DFx bb) a c := fun x y => x.tr y (fun _ _ h => h) (fun _ _ h => h)
  refine C_X5_readEither (d := d) h.1 (hT d k a 0 false C σ Q hk (by omega) (by omega) (by omega) p9 h ⟨fun σ' j u hj g1 g2 => ?_, fun σ' C' u g1 g2 => ?_⟩)
  · rw [if_pos u] at hy hn
    obtain ⟨w1, w2, w3, w4, w5⟩ := pS_ok (T := T) (n := n) f 1 k a (by omega) u
    have w1 := w1 (by omega)
    have w3 := w3 p2
    refine hL d k _ j false _ σ' Q hk (by omega) (by omega) hj g1.2.2.2.2.2.2.2.2.2.2.1 g1 ⟨fun σ2 u2 r1 r2 => ?_, fun σ2 C2 u2 r1 r2 => ?_⟩
    · refine hy σ2 u2 ?_ (t1 g2 r2)
      simp only [List.append_assoc, List.nil_append, Bool.false_eq_true, if_false] at r1 ⊢
      exact r1
    · exact hn σ2 C2 u2 r1 (t1 g2 r2)
  · rw [if_neg (by rw [u]; decide)] at hn
    exact hn σ' C' rfl g1 g2
theorem x_all : ∀ f, XF X T n bb f ∧ XE X T n bb f ∧ XT1 X T n bb f ∧ XT3 X T n bb f ∧ XT4 X T n bb f
  | 0 => ⟨fun _ _ _ _ _ _ _ hf => absurd hf (by omega), fun _ _ _ _ _ _ _ hf => absurd hf (by omega), fun _ _ _ _ _ _ _ _ _ hf => absurd hf (by omega), fun _ _ _ _ _ _ _ _ _ hf => absurd hf (by omega), fun _ _ _ _ _ _ _ _ _ hf => absurd hf (by omega)⟩
  | f + 1 =>
    have h := x_all f
    ⟨XF_step h.1 h.2.1, XE_step h.2.2.1 h.2.2.2.2, XT1_step h.1 h.2.2.2.1, XT3_step h.1 h.2.2.2.1, XT4_step h.2.2.1 h.2.2.2.2⟩
/-- E of a judgement, in the class -/
theorem x_either {D : Nat} (hD : 21 ≤ D) (h : PX T n bb a C σ) (hok : okX T n bb (4 * n + 3) 2 0 a C σ Q) : CALL X D (0, 0) MX5_readEither [vP (some 108), vI 0] σ Q :=
  (x_all (4 * n + 3)).2.1 D 0 a C σ Q (by omega) (by omega) (by omega) h hok
end TEX
