/-! BORDER, 13: the class reads a clause, and all of a text -/
section CLX
variable {X : mX} {d : Nat} {σ : mS} {Q : Option mV → mS → Prop} {T : Nat → Int} {n bb a : Nat} {C : List Int} {Bs : List mCl}
theorem CX.frx {cs : List Int} {σ' : mS} (h : CX bb Bs C σ.2.1) (hb : 86 ≤ bb ∧ bb ≤ 111) (hA : Agk (DFx bb) σ σ') : CX bb Bs (C ++ cs) σ'.2.1 :=
  h.ext (hA.2.2 _ _ (by unfold DFx; omega)) (hA.2.2 _ _ (by unfold DFx; omega)) (fun a k h1 h2 => hA.2.2 _ _ (by unfold DFx; omega))
theorem CX.fr0 {σ' : mS} (h : CX bb Bs C σ.2.1) (hb : 86 ≤ bb ∧ bb ≤ 111) (hA : Agk (DFx bb) σ σ') : CX bb Bs C σ'.2.1 := by
  have := h.frx (cs := []) hb hA
  rw [List.append_nil] at this
  exact this
theorem x_judgem (h : PX T n bb a C σ) (hC : CX bb Bs C σ.2.1) (hk : (keepC Bs).length ≤ 9) {w num x1 : Int} (hw : w = 0 ∨ w = 1) (hnum : 0 ≤ num ∧ num ≤ 99) (hx : x1 = worC (w, num, []))
    (hy : (pJd T n a).1 = true → ∀ σ', PX T n bb (pJd T n a).2.1 (C ++ (pJd T n a).2.2) σ' → CX bb (Bs ++ [(w, num, (pJd T n a).2.2)]) (C ++ (pJd T n a).2.2) σ'.2.1 → Agk (DBx bb) σ σ' → Q (some (vI (bB true))) σ')
    (hn : (pJd T n a).1 = false → ∀ σ' C', PX T n bb (pJd T n a).2.1 C' σ' → Agk (DBx bb) σ σ' → Q (some (vI (bB false))) σ') : CALL X (d + 22) (0, 0) MX5_readJudgement [vP (some 121), vI x1] σ Q := by
  have hb := h.2.1.rng
  have p7 := h.2.2.2.2.2.2.2.2.1
  have p8 := h.2.2.2.2.2.2.2.2.2.1
  have t1 : ∀ {a b c : mS}, Agk (DFx bb) a b → Agk (DFx bb) b c → Agk (DFx bb) a c := fun x y => x.tr y (fun _ _ h => h) (fun _ _ h => h)
  unfold pJd at hy hn
  refine C_X5_readJudgement (d := d + 21) h.1 ⟨bb, p7, h.2.1, x_skip (d := d + 20) h (by decide) (fun q σ1 g1 g2 => ⟨true, rfl, g1.1, (fun q => nomatch q), fun _ => ?_⟩) (fun q => ⟨false, rfl, h.1, fun _ => ?_, (fun q => nomatch q)⟩)⟩
  · rw [if_pos q] at hy hn
    refine x_either (D := d + 21) (by omega) g1 ⟨fun σ2 u f1 f2 => ?_, fun σ2 C2 u f1 f2 => ?_⟩
    · refine ⟨true, rfl, f1.1, (fun q => nomatch q), fun _ => ⟨bb, f1.2.2.2.2.2.2.2.2.1, f1.2.1, ?_⟩⟩
      rw [p8]
      refine x_addCl f1 (hC.frx hb (t1 g2 f2)) hk hw hnum (cs := (pS T n (4 * n + 3) 2 0 (a + 1)).2.2) (by rw [List.length_append]) (fun j hj => ?_) hx (fun σ3 r1 r2 r3 => ⟨rfl, r1.1, hy u σ3 r1 r2 ?_⟩)
      · rw [gDr_b (by omega), show C.length + j - C.length = j by omega]
      · exact (t1 g2 f2).tr r3 DFx_DBx (fun _ _ h => h)
    · exact ⟨false, rfl, f1.1, fun _ => hn u σ2 C2 f1 ((t1 g2 f2).mono DFx_DBx), (fun q => nomatch q)⟩
  · rw [if_neg q] at hn
    exact hn rfl σ C h (Agk.rf h.1)
theorem x_cj {kk : Nat} (hkk : 1 ≤ kk ∧ kk ≤ 6) (h : PX T n bb a C σ) (hC : CX bb Bs C σ.2.1) (hk : (keepC Bs).length ≤ 9) {w : Int} (hw : w = 0 ∨ w = 1) {f : Int → Int} (hf : ∀ z, f z = worC (w, z, []))
    (hy : (pCj T n kk w a).1 = true → ∀ σ', PX T n bb (pCj T n kk w a).2.1 (C ++ (pCj T n kk w a).2.2.2.2) σ' → CX bb (Bs ++ [(pCj T n kk w a).2.2]) (C ++ (pCj T n kk w a).2.2.2.2) σ'.2.1 → Agk (DBx bb) σ σ' → Q (some (vI (bB true))) σ')
    (hn : (pCj T n kk w a).1 = false → ∀ σ' C', PX T n bb (pCj T n kk w a).2.1 C' σ' → Agk (DBx bb) σ σ' → Q (some (vI (bB false))) σ') :
    CALL X (d + 22) (0, 0) MX5_readNumbered [vP (some 121), vO kk] σ (fun v s => ∃ z : Bool, v = some (vI (bB z)) ∧ Sh s ∧ (z = false → Q (some (vI (bB false))) s) ∧ (z = true → CALL X (d + 22) (0, 0) MX5_readJudgement [vP (some 121), vI (f (s.2.1 121 3))] s (fun v s' => ∃ z : Bool, v = some (vI (bB z)) ∧ Sh s' ∧ (z = false → Q (some (vI (bB false))) s') ∧ (z = true → Q (some (vI (bB true))) s')))) := by
  have hb := h.2.1.rng
  unfold pCj at hy hn
  refine x_numbered (d := d + 16) hkk h (fun u σ1 g1 g2 g3 => ⟨true, rfl, g1.1, (fun q => nomatch q), fun _ => ?_⟩) (fun u σ1 g1 g2 => ⟨false, rfl, g1.1, fun _ => ?_, (fun q => nomatch q)⟩)
  · rw [if_pos u] at hy hn
    obtain ⟨_, _, w3⟩ := pNd_ok (T := T) (n := n) (a := a) hkk
    obtain ⟨w4, w5⟩ := w3 u
    refine x_judgem g1 (hC.fr0 hb g2) hk hw w5 (x1 := f (σ1.2.1 121 3)) (by rw [g3]; exact hf _) (fun v σ2 f1 f2 f3 => ⟨true, rfl, f1.1, (fun q => nomatch q), fun _ => hy v σ2 f1 f2 (g2.tr f3 DFx_DBx (fun _ _ h => h))⟩) (fun v σ2 C2 f1 f2 => ⟨false, rfl, f1.1, fun _ => hn v σ2 C2 f1 (g2.tr f2 DFx_DBx (fun _ _ h => h)), (fun q => nomatch q)⟩)
  · rw [if_neg (by rw [u]; decide)] at hn
    exact hn rfl σ1 C g1 (g2.mono DFx_DBx)
theorem x_clause (h : PX T n bb a C σ) (hC : CX bb Bs C σ.2.1) (hk : (keepC Bs).length ≤ 9)
    (hy : (pCl T n a).1 = true → ∀ σ', PX T n bb (pCl T n a).2.1 (C ++ (pCl T n a).2.2.2.2) σ' → CX bb (Bs ++ [(pCl T n a).2.2]) (C ++ (pCl T n a).2.2.2.2) σ'.2.1 → Agk (DBx bb) σ σ' → Q (some (vI (bB true))) σ')
    (hn : (pCl T n a).1 = false → ∀ σ' C', PX T n bb (pCl T n a).2.1 C' σ' → Agk (DBx bb) σ σ' → Q (some (vI (bB false))) σ') : CALL X (d + 23) (0, 0) MX5_readClause [vP (some 121)] σ Q := by
  have hb := h.2.1.rng
  have hch := h.ch
  unfold pCl at hy hn
  refine C_X5_readClause (d := d + 22) h.1 (x_sign h ⟨_, rfl, h.1, by omega, fun q => ?_, fun q => ?_, fun q => ?_, fun q => ?_⟩)
  · rw [if_neg (by omega), if_pos q] at hy hn
    exact x_cj (f := fun z => -z) (by decide) h hC hk (Or.inr rfl) (fun z => rfl) hy hn
  · rw [if_pos q] at hy hn
    exact x_cj (f := fun z => z) (by decide) h hC hk (Or.inl rfl) (fun z => rfl) hy hn
  · rw [if_neg (by omega), if_neg (by omega), if_pos q] at hy hn
    refine x_numbered (d := d + 16) (by decide) h (fun u σ1 g1 g2 g3 => ⟨true, rfl, g1.1, (fun q => nomatch q), fun _ => ?_⟩) (fun u σ1 g1 g2 => ⟨false, rfl, g1.1, fun _ => hn u σ1 C g1 (g2.mono DFx_DBx), (fun q => nomatch q)⟩)
    obtain ⟨_, _, w3⟩ := pNd_ok (T := T) (n := n) (a := a) (kk := 6) (by decide)
    obtain ⟨w4, w5⟩ := w3 u
    obtain ⟨hs, hB, p1, p2, p3, p4, p5, p6, p7, p8, p9, p10⟩ := g1
    have s1 : Sh (sI σ1 bb 6 (σ1.2.1 121 3)) := sh_I hs (by omega) (kB hs hB) (Or.inl (by decide))
    obtain ⟨c1, c2, c3⟩ := hC.fr0 hb g2
    have hy := hy u (sI σ1 bb 6 (σ1.2.1 121 3))
    simp only [List.append_nil] at hy
    refine C_X5_readRest hs ⟨bb, p7, hB, ⟨true, rfl, s1, (fun q => nomatch q), fun _ => hy ⟨s1, hB, p1, p2, ?_, ?_, fun i hi => ?_, p6, p7, ?_, p9, fun j hj => ?_⟩ ⟨?_, ?_, fun i hi => ?_⟩ ?_⟩⟩
    · rw [sI_at, if_neg (by omega)]; exact p3
    · rw [sI_at, if_neg (by omega)]; exact p4
    · rw [sI_at, if_neg (by omega)]; exact p5 i hi
    · rw [sI_at, if_neg (by omega)]; exact p8
    · rw [sI_at, if_neg (by omega)]; exact p10 j hj
    · rw [sI_at, if_pos ⟨rfl, rfl⟩, restC_s, if_pos rfl]; exact g3
    · rw [sI_at, if_neg (by omega), keepC_n (c := (2, (pNd T n 6 a).2.2, [])) (show ¬ (2 : Int) < 2 by decide)]; exact c2
    · rw [keepC_n (c := (2, (pNd T n 6 a).2.2, [])) (show ¬ (2 : Int) < 2 by decide)] at hi ⊢
      rw [sI_at, sI_at, sI_at, if_neg (by omega), if_neg (by omega), if_neg (by omega)]
      exact c3 i hi
    · exact (g2.mono DFx_DBx).sI s1 (Or.inr (Or.inl ⟨rfl, Or.inr (Or.inr rfl)⟩))
  · rw [if_neg (by omega), if_neg (by omega), if_neg (by omega)] at hn
    exact hn rfl σ C h (Agk.rf h.1)
theorem x_clauses : ∀ (m a : Nat) (C : List Int) (Bs : List mCl) (σ : mS), PX T n bb a C σ → CX bb Bs C σ.2.1 → (keepC Bs).length + m ≤ 10 →
    ((pCs T n m a).1 = true → ∀ σ' C', PX T n bb n C' σ' → CX bb (Bs ++ (pCs T n m a).2.2) C' σ'.2.1 → Agk (DBx bb) σ σ' → Q (some (vI (bB true))) σ') →
    ((pCs T n m a).1 = false → ∀ σ' C', PX T n bb (pCs T n m a).2.1 C' σ' → Agk (DBx bb) σ σ' → Q (some (vI (bB false))) σ') → WP X (d + 24) (0, 0) MX5_readClauses 3 [(0, vP (some 121)), (1, vI ((m : Int) - 1))] [] σ Q
  | 0, a, C, Bs, σ, h, hC, hk, hy, hn => by
    refine C_X5_readClauses_3 (d := d + 23) h.1 ⟨by omega, fun _ => hn rfl σ C h (Agk.rf h.1), fun q => absurd q (by omega)⟩
  | m + 1, a, C, Bs, σ, h, hC, hk, hy, hn => by
    have t1 : ∀ {a b c : mS}, Agk (DBx bb) a b → Agk (DBx bb) b c → Agk (DBx bb) a c := fun x y => x.tr y (fun _ _ h => h) (fun _ _ h => h)
    rw [pCs_s] at hy hn
    rw [show (((m + 1 : Nat) : Int) - 1) = (m : Int) by omega]
    refine C_X5_readClauses_3 (d := d + 23) h.1 ⟨by omega, fun q => absurd q (by omega), fun _ => x_clause (d := d) h hC (by omega) (fun u σ1 g1 g2 g3 => ⟨true, rfl, g1.1, (fun q => nomatch q), fun _ => ⟨fun q => ⟨fun q0 => ?_, fun q0 => ?_⟩, fun q => ?_⟩⟩) (fun u σ1 C1 g1 g2 => ⟨false, rfl, g1.1, fun _ => ?_, (fun q => nomatch q)⟩)⟩
    · rw [if_pos u, if_neg (by have := g1.2.2.2.2.1; have := g1.2.2.2.2.2.1; omega), if_pos (by omega)] at hn
      exact hn rfl σ1 _ g1 g3
    · rw [if_pos u, if_neg (by have := g1.2.2.2.2.1; have := g1.2.2.2.2.2.1; omega), if_neg (by omega)] at hy hn
      refine x_skip (d := d + 22) g1 (by decide) (fun r σ2 f1 f2 => ⟨true, rfl, f1.1, (fun q => nomatch q), fun _ => ?_⟩) (fun r => ⟨false, rfl, g1.1, fun _ => ?_, (fun q => nomatch q)⟩)
      · rw [if_pos r] at hy hn
        have hb := h.2.1.rng
        have A : Agk (DBx bb) σ σ2 := g3.tr f2 (fun _ _ h => h) DFx_DBx
        have hl : (keepC (Bs ++ [(pCl T n a).2.2])).length ≤ (keepC Bs).length + 1 := by
          by_cases hc : (pCl T n a).2.2.1 < 2
          · rw [keepC_y hc, List.length_append]; simp
          · rw [keepC_n hc]; omega
        rw [show (m : Int) + (-1) = (m : Int) - 1 by omega]
        refine x_clauses m _ _ (Bs ++ [(pCl T n a).2.2]) σ2 f1 (g2.fr0 hb f2) (by omega) (fun v σ3 C3 r1 r2 r3 => hy v σ3 C3 r1 ?_ (t1 A r3)) (fun v σ3 C3 r1 r2 => hn v σ3 C3 r1 (t1 A r2))
        rw [List.append_assoc] at r2
        exact r2
      · rw [if_neg r] at hn
        exact hn rfl σ1 _ g1 g3
    · have e : (pCl T n a).2.1 = n := by have := g1.2.2.2.2.1; have := g1.2.2.2.2.2.1; omega
      rw [if_pos u, if_pos e] at hy
      rw [e] at g1
      exact hy rfl σ1 _ g1 g2 g3
    · rw [if_neg (by rw [u]; decide)] at hn
      exact hn rfl σ1 C1 g1 g2
def DTx (bb : Nat) : Nat → Nat → Prop := fun a k => (a = 121 ∧ (k = 1 ∨ k = 2 ∨ k = 3)) ∨ (bb ≤ a ∧ a ≤ bb + 4)
theorem x_into (hs : Sh σ) (hB : isB bb) (hn100 : n ≤ 100) (h1 : σ.2.1 121 1 = n) (hT : ∀ i, i < n → σ.2.1 122 i = T i) (hT2 : ∀ i, i < n → 0 ≤ T i ∧ T i ≤ 127)
    (hy : (pCs T n 10 0).1 = true → ∀ σ' C', Agk (DTx bb) σ σ' → σ'.2.1 121 1 = 0 → CX bb (pCs T n 10 0).2.2 C' σ'.2.1 → C'.length ≤ 100 → (∀ j, j < C'.length → σ'.2.1 (bb + 4) j = C'.getD j 0) → Q (some (vI (-1))) σ')
    (hn : (pCs T n 10 0).1 = false → (pCs T n 10 0).2.1 ≤ 100 → ∀ σ', Agk (DTx bb) σ σ' → σ'.2.1 121 1 = 0 → Q (some (vI ((pCs T n 10 0).2.1 : Int))) σ') : CALL X (d + 25) (0, 0) MX5_readInto [vP (some 121), vP (some bb)] σ Q := by
  have hb := hB.rng
  have s0 : Sh (sR σ 121 4 (some bb)) := sh_R hs
  have s1 : Sh (sI (sR σ 121 4 (some bb)) bb 4 0) := sh_I s0 (by decide) (kB s0 hB) (Or.inl (by decide))
  have s2 : Sh (sI (sI (sR σ 121 4 (some bb)) bb 4 0) bb 5 0) := sh_I s1 (by decide) (kB s1 hB) (Or.inl (by decide))
  have s3 : Sh (sI (sI (sI (sR σ 121 4 (some bb)) bb 4 0) bb 5 0) bb 6 5) := sh_I s2 (by decide) (kB s2 hB) (Or.inl (by decide))
  have s4 : Sh (sI (sI (sI (sI (sR σ 121 4 (some bb)) bb 4 0) bb 5 0) bb 6 5) 121 2 0) := sh_I s3 (by decide) (s3.k (a := 121) rfl) (Or.inl (by decide))
  have e0 : (sR σ 121 4 (some bb)).2.2.2 121 4 = some bb := by
    show (if (121 : Nat) = 121 ∧ (4 : Nat) = 4 then some bb else σ.2.2.2 121 4) = some bb
    exact if_pos ⟨rfl, rfl⟩
  have A0 : Agk (DTx bb) σ (sR σ 121 4 (some bb)) := ⟨s0, rfl, fun _ _ _ => rfl⟩
  have A4 := (((A0.sI s1 (Or.inr (by omega))).sI s2 (Or.inr (by omega))).sI s3 (Or.inr (by omega))).sI s4 (Or.inl ⟨rfl, Or.inr (Or.inl rfl)⟩)
  have ef : ∀ b j, (sI (sI (sI (sI (sR σ 121 4 (some bb)) bb 4 0) bb 5 0) bb 6 5) 121 2 0).2.1 b j = if b = 121 ∧ j = 2 then 0 else if b = bb ∧ j = 6 then 5 else if b = bb ∧ j = 5 then 0 else if b = bb ∧ j = 4 then 0 else σ.2.1 b j := fun _ _ => rfl
  have hD : ∀ a k, DBx bb a k → DTx bb a k := by
    intro a k h
    unfold DBx at h
    unfold DTx
    omega
  have hP : PX T n bb 0 [] (sI (sI (sI (sI (sR σ 121 4 (some bb)) bb 4 0) bb 5 0) bb 6 5) 121 2 0) := by
    refine ⟨s4, hB, hn100, by omega, ?_, ?_, fun i hi => ?_, hT2, e0, ?_, by simp, fun j hj => absurd hj (by simp)⟩
    · rw [ef, if_neg (by omega), if_neg (by omega), if_neg (by omega), if_neg (by omega)]; exact h1
    · rw [ef, if_pos ⟨rfl, rfl⟩]; rfl
    · rw [ef, if_neg (by omega), if_neg (by omega), if_neg (by omega), if_neg (by omega)]; exact hT i hi
    · rw [ef, if_neg (by omega), if_neg (by omega), if_pos ⟨rfl, rfl⟩]; rfl
  have hC : CX bb [] [] (sI (sI (sI (sI (sR σ 121 4 (some bb)) bb 4 0) bb 5 0) bb 6 5) 121 2 0).2.1 := by
    refine ⟨?_, ?_, fun i hi => absurd hi (by simp [keepC])⟩
    · rw [ef, if_neg (by omega), if_pos ⟨rfl, rfl⟩]; rfl
    · rw [ef, if_neg (by omega), if_neg (by omega), if_neg (by omega), if_pos ⟨rfl, rfl⟩]; rfl
  refine C_X5_readInto (d := d + 24) hs hB ⟨bb, e0, hB, C_X1_clear s0 hB ⟨rfl, s3, C_X5_readClauses (d := d + 23) s4 ?_⟩⟩
  show WP X (d + 24) (0, 0) MX5_readClauses 3 [(0, vP (some 121)), (1, vI (((10 : Nat) : Int) - 1))] [] _ _
  refine x_clauses (d := d) 10 0 [] [] _ hP hC (by simp [keepC]) (fun u σ1 C1 g1 g2 g3 => ⟨true, rfl, g1.1, (fun q => nomatch q), fun _ => ?_⟩) (fun u σ1 C1 g1 g2 => ⟨false, rfl, g1.1, fun _ => ?_, (fun q => nomatch q)⟩)
  · have s5 : Sh (sI σ1 121 1 0) := sh_I g1.1 (by decide) (g1.1.k (a := 121) rfl) (Or.inl (by decide))
    refine hy u _ C1 ((A4.tr g3 (fun _ _ h => h) hD).sI s5 (Or.inl ⟨rfl, Or.inl rfl⟩)) ?_ ?_ ?_ (fun j hj => ?_)
    · rw [sI_at, if_pos ⟨rfl, rfl⟩]
    · have := g2.ext (cs := []) (μ' := (sI σ1 121 1 0).2.1) (by rw [sI_at, if_neg (by omega)]) (by rw [sI_at, if_neg (by omega)]) (fun a k h1 h2 => by rw [sI_at, if_neg (by omega)])
      rw [List.append_nil] at this
      exact this
    · have := g1.2.2.2.2.2.2.2.2.2.2.1; omega
    · rw [sI_at, if_neg (by omega)]; exact g1.2.2.2.2.2.2.2.2.2.2.2 j hj
  · have s5 : Sh (sI σ1 121 1 0) := sh_I g1.1 (by decide) (g1.1.k (a := 121) rfl) (Or.inl (by decide))
    have e2 : (sI σ1 121 1 0).2.1 121 2 = ((pCs T n 10 0).2.1 : Int) := by rw [sI_at, if_neg (by omega)]; exact g1.2.2.2.2.2.1
    rw [e2]
    exact hn u (by have := g1.2.2.2.1; omega) _ ((A4.tr g2 (fun _ _ h => h) hD).sI s5 (Or.inl ⟨rfl, Or.inl rfl⟩)) (by rw [sI_at, if_pos ⟨rfl, rfl⟩])
end CLX
