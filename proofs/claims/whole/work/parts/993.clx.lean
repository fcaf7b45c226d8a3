/-! BORDER, 13: the class reads a clause, and all of a text -/
section CLX
variable {X : mX} {d : Nat} {σ : mS} {Q : Option mV → mS → Prop} {T : Nat → Int} {n bb a : Nat} {C : List Int} {Bs : List mCl}
/-- behind the number of keen or dull -/
theorem x_judgem (h : PX T n bb a C σ) (hC : CX bb Bs C σ.2.1) (hl : C.length < a) {w num x1 : Int} (hw : w = 0 ∨ w = 1) (hnum : 0 ≤ num ∧ num ≤ 99) (hx : x1 = worC (w, num, []))
    (hy : (pJd T n a).1 = true → ∀ σ' C', PX T n bb (pJd T n a).2.1 C' σ' → CX bb (Bs ++ [(w, num, (pJd T n a).2.2)]) C' σ'.2.1 → Agk (DFx bb) σ σ' → Q (some (vI (bB true))) σ')
    (hn : (pJd T n a).1 = false → ∀ σ' C', PX T n bb (pJd T n a).2.1 C' σ' → Agk (DFx bb) σ σ' → Q (some (vI (bB false))) σ') :
    CALL X (d + 22) (0, 0) MX5_skip [vP (some 108), vI 32] σ (fun v s => ∃ z : Bool, v = some (vI (bB z)) ∧ Sh s ∧ (z = false → Q (some (vI (bB false))) s) ∧ (z = true → CALL X (d + 22) (0, 0) MX5_readEither [vP (some 108), vI 0] s (fun v s2 => ∃ z : Bool, v = some (vI (bB z)) ∧ Sh s2 ∧ (z = false → Q (some (vI (bB false))) s2) ∧ (z = true → (∃ b : Nat, (s2.2.2.2 108 5) = some b ∧ isB b ∧ CALL X (d + 22) (0, 0) MX1_addWorth [vP (some b), vI x1] s2 (fun v s3 => v = none ∧ Sh s3 ∧ Q (some (vI (bB true))) s3)))))) := by
  have hb := h.2.1.rng
  have p2 := h.2.2.2.1
  have t1 : ∀ {a b c : mS}, Agk (DFx bb) a b → Agk (DFx bb) b c → Agk (DFx bb) a c := fun x y => x.tr y (fun _ _ h => h) (fun _ _ h => h)
  have hxr : -99 ≤ x1 ∧ x1 ≤ 99 := by
    rw [hx]
    unfold worC
    split <;> simp only <;> omega
  unfold pJd at hy hn
  refine x_skip (d := d + 21) h (by decide) (fun q σ1 g1 g2 => ⟨true, rfl, g1.1, (fun q => nomatch q), fun _ => ?_⟩) (fun q => ⟨false, rfl, h.1, fun _ => ?_, (fun q => nomatch q)⟩)
  · rw [if_pos q] at hy hn
    refine x_either (D := d + 22) (by omega) g1 ⟨fun σ2 u f1 f2 => ?_, fun σ2 C2 u f1 f2 => ?_⟩
    · have ha := chT_in (T := T) (n := n) (a := a) (by rw [q]; decide)
      obtain ⟨w1, w2, w3, w4, w5⟩ := pS_ok (T := T) (n := n) (4 * n + 3) 2 0 (a + 1) (by omega) u
      have w1 := w1 (by omega)
      refine ⟨true, rfl, f1.1, (fun q => nomatch q), fun _ => ⟨bb, f1.2.2.2.2.2.2.2.2.1, f1.2.1, x_addWorth (d := d + 21) f1 (by rw [List.length_append]; omega) hxr (fun σ3 r1 r2 => ⟨rfl, r1.1, hy u σ3 _ r1 ?_ (t1 (t1 g2 f2) r2)⟩)⟩⟩
      obtain ⟨c1, c2⟩ := hC.fr hb (t1 (t1 g2 f2) r2)
      refine ⟨?_, ?_⟩
      · rw [restC_s, if_neg (by simp only; omega)]
        exact c1
      · rw [keepC_y (by simp only; omega), flX_app, c2, List.append_assoc, hx]
        rfl
    · exact ⟨false, rfl, f1.1, fun _ => hn u σ2 C2 f1 (t1 g2 f2), (fun q => nomatch q)⟩
  · rw [if_neg q] at hn
    exact hn rfl σ C h (Agk.rf h.1)
theorem x_cj {kk : Nat} (hkk : 1 ≤ kk ∧ kk ≤ 6) (h : PX T n bb a C σ) (hC : CX bb Bs C σ.2.1) {w : Int} (hw : w = 0 ∨ w = 1) {f : Int → Int} (hf : ∀ z, f z = worC (w, z, []))
    (hy : (pCj T n kk w a).1 = true → ∀ σ' C', PX T n bb (pCj T n kk w a).2.1 C' σ' → CX bb (Bs ++ [(pCj T n kk w a).2.2]) C' σ'.2.1 → Agk (DBx bb) σ σ' → Q (some (vI (bB true))) σ')
    (hn : (pCj T n kk w a).1 = false → ∀ σ' C', PX T n bb (pCj T n kk w a).2.1 C' σ' → Agk (DBx bb) σ σ' → Q (some (vI (bB false))) σ') :
    CALL X (d + 22) (0, 0) MX5_readNumbered [vP (some 108), vO kk] σ (fun v s0 => ∃ z : Bool, v = some (vI (bB z)) ∧ Sh s0 ∧ (z = false → Q (some (vI (bB false))) s0) ∧ (z = true → CALL X (d + 22) (0, 0) MX5_skip [vP (some 108), vI 32] s0 (fun v s => ∃ z : Bool, v = some (vI (bB z)) ∧ Sh s ∧ (z = false → Q (some (vI (bB false))) s) ∧ (z = true → CALL X (d + 22) (0, 0) MX5_readEither [vP (some 108), vI 0] s (fun v s2 => ∃ z : Bool, v = some (vI (bB z)) ∧ Sh s2 ∧ (z = false → Q (some (vI (bB false))) s2) ∧ (z = true → (∃ b : Nat, (s2.2.2.2 108 5) = some b ∧ isB b ∧ CALL X (d + 22) (0, 0) MX1_addWorth [vP (some b), vI (f (s0.2.1 108 4))] s2 (fun v s3 => v = none ∧ Sh s3 ∧ Q (some (vI (bB true))) s3)))))))) := by
  have hb := h.2.1.rng
  have p9 := h.2.2.2.2.2.2.2.2.2.2.1
  unfold pCj at hy hn
  refine x_numbered (d := d + 16) hkk h (fun u σ1 g1 g2 g3 => ⟨true, rfl, g1.1, (fun q => nomatch q), fun _ => ?_⟩) (fun u σ1 g1 g2 => ⟨false, rfl, g1.1, fun _ => ?_, (fun q => nomatch q)⟩)
  · rw [if_pos u] at hy hn
    obtain ⟨_, _, w3⟩ := pNd_ok (T := T) (n := n) (a := a) hkk
    obtain ⟨w4, w5⟩ := w3 u
    exact x_judgem (d := d) g1 (hC.fr hb g2) (by omega) hw w5 (x1 := f (σ1.2.1 108 4)) (by rw [g3]; exact hf _) (fun v σ2 C2 f1 f2 f3 => hy v σ2 C2 f1 f2 (g2.tr f3 DFx_DBx DFx_DBx)) (fun v σ2 C2 f1 f2 => hn v σ2 C2 f1 (g2.tr f2 DFx_DBx DFx_DBx))
  · rw [if_neg (by rw [u]; decide)] at hn
    exact hn rfl σ1 C g1 (g2.mono DFx_DBx)
/-- what begins like no clause stops at its first sign -/
theorem pNd_stop (h : chT T n a ≠ 114) : (pNd T n 6 a).1 = false ∧ (pNd T n 6 a).2.1 = a := by
  have e : pNd T n 6 a = (false, a, 0) := by
    show pNdL T n (114 :: [101, 115, 116, 32]) a = _
    exact pNdL_n h
  rw [e]
  exact ⟨rfl, rfl⟩
theorem x_clause (h : PX T n bb a C σ) (hC : CX bb Bs C σ.2.1)
    (hy : (pCl T n a).1 = true → ∀ σ' C', PX T n bb (pCl T n a).2.1 C' σ' → CX bb (Bs ++ [(pCl T n a).2.2]) C' σ'.2.1 → Agk (DBx bb) σ σ' → Q (some (vI (bB true))) σ')
    (hn : (pCl T n a).1 = false → ∀ σ' C', PX T n bb (pCl T n a).2.1 C' σ' → Agk (DBx bb) σ σ' → Q (some (vI (bB false))) σ') : CALL X (d + 23) (0, 0) MX5_readClause [vP (some 108)] σ Q := by
  have hb := h.2.1.rng
  have hsg := h.sg
  unfold pCl at hy hn
  refine C_X5_readClause (d := d + 22) h.1 ⟨fun k1 => ⟨fun k2 => ?_, fun k2 => ?_⟩, fun k1 => ?_⟩
  · rw [if_neg (fun e => k1 (hsg.trans e)), if_neg (fun e => k2 (hsg.trans e))] at hy hn
    by_cases k3 : chT T n a = 114
    · rw [if_pos k3] at hy hn
      refine x_numbered (d := d + 16) (by decide) h (fun u σ1 g1 g2 g3 => ⟨true, rfl, g1.1, (fun q => nomatch q), fun _ => ⟨fun q => absurd (hsg.trans k3) q, fun _ => ?_⟩⟩) (fun u σ1 g1 g2 => ⟨false, rfl, g1.1, fun _ => hn u σ1 C g1 (g2.mono DFx_DBx), (fun q => nomatch q)⟩)
      obtain ⟨_, _, w3⟩ := pNd_ok (T := T) (n := n) (a := a) (kk := 6) (by decide)
      obtain ⟨w4, w5⟩ := w3 u
      obtain ⟨hs, hB, p1, p2, p3, p4, p5, p6, p7, p8, p9, p10, p11⟩ := g1
      have s1 : Sh (sI σ1 bb 3 (σ1.2.1 108 4)) := sh_I hs (hs.2.2.1 _ _) (kB hs hB) (Or.inl (by decide))
      obtain ⟨c1, c2⟩ := hC.fr hb g2
      refine ⟨bb, p7, hB, hy u (sI σ1 bb 3 (σ1.2.1 108 4)) C ⟨s1, hB, p1, p2, ?_, ?_, fun i hi => ?_, p6, p7, ?_, p9, fun j hj => ?_, ?_⟩ ⟨?_, ?_⟩ ?_⟩
      · rw [sI_at, if_neg (by omega)]; exact p3
      · rw [sI_at, if_neg (by omega)]; exact p4
      · rw [sI_at, if_neg (by omega)]; exact p5 i hi
      · rw [sI_at, if_neg (by omega)]; exact p8
      · rw [sI_at, if_neg (by omega)]; exact p10 j hj
      · rw [sI_at, if_neg (by omega)]; exact p11
      · rw [sI_at, if_pos ⟨rfl, rfl⟩, restC_s, if_pos rfl]; exact g3
      · rw [keepC_n (c := (2, (pNd T n 6 a).2.2, [])) (show ¬ (2 : Int) < 2 by decide)]; exact c2
      · exact (g2.mono DFx_DBx).sI s1 (Or.inr (Or.inl ⟨rfl, Or.inr rfl⟩))
    · rw [if_neg k3] at hn
      obtain ⟨e1, e2⟩ := pNd_stop k3
      refine x_numbered (d := d + 16) (by decide) h (fun u => absurd u (by rw [e1]; decide)) (fun u σ1 g1 g2 => ⟨false, rfl, g1.1, fun _ => ?_, (fun q => nomatch q)⟩)
      rw [e2] at g1
      exact hn rfl σ1 C g1 (g2.mono DFx_DBx)
  · have k3 : chT T n a = 100 := hsg.symm.trans k2
    rw [if_neg (by omega), if_pos k3] at hy hn
    exact CALL.mono (x_cj (d := d) (f := fun z => -z) (kk := 5) (by decide) h hC (Or.inr rfl) (fun z => rfl) hy hn) (fun v s0 ⟨z, e1, e2, e3, e4⟩ => ⟨z, e1, e2, e3, fun hz => ⟨fun _ => e4 hz, fun q => absurd q (by omega)⟩⟩)
  · have k3 : chT T n a = 107 := hsg.symm.trans k1
    rw [if_pos k3] at hy hn
    exact CALL.mono (x_cj (d := d) (f := fun z => z) (kk := 1) (by decide) h hC (Or.inl rfl) (fun z => rfl) hy hn) (fun v s0 ⟨z, e1, e2, e3, e4⟩ => ⟨z, e1, e2, e3, fun hz => ⟨fun _ => ⟨fun _ => e4 hz, fun q => absurd q (by omega)⟩, fun q => absurd q (by omega)⟩⟩)
/-- behind a clause: the end, or another one -/
def pBhx (T : Nat → Int) (n m a : Nat) : Bool × Nat × List mCl :=
  if a = n then (true, n, []) else if m = 0 then (false, a, []) else if chT T n a = 59 then pCs T n m (a + 1) else (false, a, [])
theorem chT_end (h : PX T n bb a C σ) : σ.2.1 108 3 = -1 ↔ a = n := by
  have hsg := h.sg
  have p2 := h.2.2.2.1
  rw [hsg]
  constructor
  · intro e
    refine Nat.le_antisymm p2 (Nat.le_of_not_lt (fun q => ?_))
    have := h.2.2.2.2.2.2.2.1 a q
    unfold chT at e
    rw [if_pos q] at e
    omega
  · intro e
    unfold chT
    rw [if_neg (by omega)]
/-- the text is gone; where the reader stands is told -/
theorem x_gone (h : PX T n bb a C σ) : Sh (sI σ 108 1 0) ∧ (sI σ 108 1 0).2.1 108 2 = (a : Int) := by
  refine ⟨sh_I h.1 (by decide) (h.1.k (a := 108) rfl) (Or.inl (by decide)), ?_⟩
  rw [sI_at, if_neg (by omega)]
  exact h.2.2.2.2.2.1
theorem x_none (h : PX T n bb a C σ) {i : Nat} (hi : i ≤ 100) (hQ : Q (some (vI (a : Int))) (sI σ 108 1 0)) : WP X (d + 1) (0, 0) MX5_readInto 24 [(0, vP (some 108)), (2, vI 0), (3, vI (i : Int))] [] σ Q := by
  obtain ⟨_, e⟩ := x_gone h
  refine C_X5_readInto_24 h.1 ⟨by omega, fun _ => ⟨by decide, fun _ => ?_, fun q => absurd rfl q⟩, fun _ => ⟨by decide, fun _ => ?_, fun q => absurd rfl q⟩⟩
  · rw [e]; exact hQ
  · rw [e]; exact hQ
theorem x_after : ∀ (m i a : Nat) (C : List Int) (Bs : List mCl) (σ : mS), i + m = 10 → PX T n bb a C σ → CX bb Bs C σ.2.1 →
    ((pBhx T n m a).1 = true → ∀ σ' C', PX T n bb n C' σ' → CX bb (Bs ++ (pBhx T n m a).2.2) C' σ'.2.1 → Agk (DBx bb) σ σ' → Q (some (vI (-1))) (sI σ' 108 1 0)) →
    ((pBhx T n m a).1 = false → ∀ σ' C', PX T n bb (pBhx T n m a).2.1 C' σ' → Agk (DBx bb) σ σ' → Q (some (vI ((pBhx T n m a).2.1 : Int))) (sI σ' 108 1 0)) → WP X (d + 24) (0, 0) MX5_readInto 24 [(0, vP (some 108)), (2, vI 1), (3, vI (i : Int))] [] σ Q
  | 0, i, a, C, Bs, σ, hi, h, hC, hy, hn => by
    obtain ⟨_, e⟩ := x_gone h
    unfold pBhx at hy hn
    refine C_X5_readInto_24 (d := d + 23) h.1 ⟨by omega, fun _ => ⟨by decide, fun q => absurd q (by decide), fun _ => ⟨fun q => ?_, fun q => ?_⟩⟩, fun q => absurd q (by omega)⟩
    · rw [if_neg (fun e => q ((chT_end h).2 e)), if_pos rfl] at hn
      rw [e]
      exact hn rfl σ C h (Agk.rf h.1)
    · have q := (chT_end h).1 q
      rw [if_pos q, List.append_nil] at hy
      rw [q] at h
      exact hy rfl σ C h hC (Agk.rf h.1)
  | m + 1, i, a, C, Bs, σ, hi, h, hC, hy, hn => by
    have hb := h.2.1.rng
    have t1 : ∀ {a b c : mS}, Agk (DBx bb) a b → Agk (DBx bb) b c → Agk (DBx bb) a c := fun x y => x.tr y (fun _ _ h => h) (fun _ _ h => h)
    unfold pBhx at hy hn
    refine C_X5_readInto_24 (d := d + 23) h.1 ⟨by omega, fun q => absurd q (by omega), fun _ => ⟨by decide, fun q => absurd q (by decide), fun _ => ⟨fun q => ?_, fun q => ?_⟩⟩⟩
    · have q := (chT_end h).1 q
      rw [if_pos q, List.append_nil] at hy
      rw [q] at h
      exact hy rfl σ C h hC (Agk.rf h.1)
    · have q : ¬ a = n := fun e => q ((chT_end h).2 e)
      rw [if_neg q, if_neg (by omega)] at hy hn
      rw [show (i : Int) + 1 = ((i + 1 : Nat) : Int) by omega]
      refine x_skip (d := d + 22) h (by decide) (fun r σ1 g1 g2 => ⟨true, rfl, g1.1, (fun q => nomatch q), fun _ => ?_⟩) (fun r => ⟨false, rfl, h.1, fun _ => ?_, (fun q => nomatch q)⟩)
      · rw [if_pos r, pCs_s] at hy hn
        have A1 : Agk (DBx bb) σ σ1 := g2.mono DFx_DBx
        refine x_clause (d := d) g1 (hC.fr hb g2) (fun u σ2 C2 f1 f2 f3 => ⟨true, rfl, f1.1, (fun q => nomatch q), fun _ => ?_⟩) (fun u σ2 C2 f1 f2 => ⟨false, rfl, f1.1, fun _ => ?_, (fun q => nomatch q)⟩)
        · rw [if_pos u] at hy hn
          refine x_after m (i + 1) _ C2 _ σ2 (by omega) f1 f2 (fun v σ3 C3 r1 r2 r3 => ?_) (fun v σ3 C3 r1 r2 => ?_)
          · unfold pBhx at v r2
            by_cases c1 : (pCl T n (a + 1)).2.1 = n
            · rw [if_pos c1] at hy r2
              rw [List.append_nil] at r2
              exact hy rfl σ3 C3 r1 r2 (t1 (t1 A1 f3) r3)
            · rw [if_neg c1] at hy v r2
              by_cases c2 : m = 0
              · rw [if_pos c2] at v
                cases v
              · rw [if_neg c2] at hy v r2
                by_cases c3 : chT T n (pCl T n (a + 1)).2.1 = 59
                · rw [if_pos c3] at hy v r2
                  rw [List.append_assoc] at r2
                  exact hy v σ3 C3 r1 r2 (t1 (t1 A1 f3) r3)
                · rw [if_neg c3] at v
                  cases v
          · unfold pBhx at v r1 ⊢
            by_cases c1 : (pCl T n (a + 1)).2.1 = n
            · rw [if_pos c1] at v
              cases v
            · rw [if_neg c1] at hn v r1 ⊢
              by_cases c2 : m = 0
              · rw [if_pos c2] at hn r1 ⊢
                exact hn rfl σ3 C3 r1 (t1 (t1 A1 f3) r2)
              · rw [if_neg c2] at hn v r1 ⊢
                by_cases c3 : chT T n (pCl T n (a + 1)).2.1 = 59
                · rw [if_pos c3] at hn v r1 ⊢
                  exact hn v σ3 C3 r1 (t1 (t1 A1 f3) r2)
                · rw [if_neg c3] at hn r1 ⊢
                  exact hn rfl σ3 C3 r1 (t1 (t1 A1 f3) r2)
        · rw [if_neg (by rw [u]; decide)] at hn
          exact x_none (d := d + 23) f1 (by omega) (hn rfl σ2 C2 f1 (t1 A1 f2))
      · rw [if_neg r] at hn
        exact x_none (d := d + 23) h (by omega) (hn rfl σ C h (Agk.rf h.1))
def DTx (bb : Nat) : Nat → Nat → Prop := fun a k => (a = 108 ∧ (k = 1 ∨ k = 2 ∨ k = 3 ∨ k = 4)) ∨ (bb ≤ a ∧ a ≤ bb + 1)
theorem x_into (hs : Sh σ) (hB : isB bb) (hn100 : n ≤ 100) (h1 : σ.2.1 108 1 = n) (hT : ∀ i, i < n → σ.2.1 109 i = T i) (hT2 : ∀ i, i < n → 0 ≤ T i ∧ T i ≤ 127)
    (hy : (pCs T n 10 0).1 = true → ∀ σ', Agk (DTx bb) σ σ' → σ'.2.1 108 1 = 0 → RXb bb (pCs T n 10 0).2.2 σ'.2.1 → Q (some (vI (-1))) σ')
    (hn : (pCs T n 10 0).1 = false → (pCs T n 10 0).2.1 ≤ 100 → ∀ σ', Agk (DTx bb) σ σ' → σ'.2.1 108 1 = 0 → Q (some (vI ((pCs T n 10 0).2.1 : Int))) σ') : CALL X (d + 25) (0, 0) MX5_readInto [vP (some 108), vP (some bb)] σ Q := by
  have hb := hB.rng
  have s0 : Sh (sR σ 108 5 (some bb)) := sh_R hs
  have s1 : Sh (sI (sR σ 108 5 (some bb)) bb 2 0) := sh_I s0 (by decide) (kB s0 hB) (Or.inl (by decide))
  have s2 : Sh (sI (sI (sR σ 108 5 (some bb)) bb 2 0) bb 3 5) := sh_I s1 (by decide) (kB s1 hB) (Or.inl (by decide))
  have e0 : (sR σ 108 5 (some bb)).2.2.2 108 5 = some bb := by
    show (if (108 : Nat) = 108 ∧ (5 : Nat) = 5 then some bb else σ.2.2.2 108 5) = some bb
    exact if_pos ⟨rfl, rfl⟩
  have A0 : Agk (DTx bb) σ (sR σ 108 5 (some bb)) := ⟨s0, rfl, fun _ _ _ => rfl⟩
  have A2 : Agk (DTx bb) σ (sI (sI (sR σ 108 5 (some bb)) bb 2 0) bb 3 5) := (A0.sI s1 (Or.inr (by omega))).sI s2 (Or.inr (by omega))
  have ef : ∀ b j, (sI (sI (sR σ 108 5 (some bb)) bb 2 0) bb 3 5).2.1 b j = if b = bb ∧ j = 3 then 5 else if b = bb ∧ j = 2 then 0 else σ.2.1 b j := fun _ _ => rfl
  have hD : ∀ a k, DBx bb a k → DTx bb a k := by
    intro a k h
    unfold DBx at h
    unfold DTx
    omega
  have t2 : ∀ {a b c : mS}, Agk (DTx bb) a b → Agk (DBx bb) b c → Agk (DTx bb) a c := fun x y => x.tr y (fun _ _ h => h) hD
  have kN : (pCs T n 10 0).1 = false → ∀ σ' C', PX T n bb (pCs T n 10 0).2.1 C' σ' → Agk (DTx bb) σ σ' → Q (some (vI ((pCs T n 10 0).2.1 : Int))) (sI σ' 108 1 0) := fun u σ' C' g1 g2 => by
    obtain ⟨s5, _⟩ := x_gone g1
    refine hn u (by have := g1.2.2.2.1; omega) _ (g2.sI s5 (Or.inl ⟨rfl, Or.inl rfl⟩)) ?_
    rw [sI_at, if_pos ⟨rfl, rfl⟩]
  have kY : (pCs T n 10 0).1 = true → ∀ σ' C', PX T n bb n C' σ' → CX bb (pCs T n 10 0).2.2 C' σ'.2.1 → Agk (DTx bb) σ σ' → Q (some (vI (-1))) (sI σ' 108 1 0) := fun u σ' C' g1 g2 g3 => by
    obtain ⟨s5, _⟩ := x_gone g1
    refine hy u _ (g3.sI s5 (Or.inl ⟨rfl, Or.inl rfl⟩)) (by rw [sI_at, if_pos ⟨rfl, rfl⟩]) ?_
    obtain ⟨k1, k2, k3, k4⟩ := g2.rxb g1
    refine ⟨?_, ?_, k3, fun j hj => ?_⟩
    · rw [sI_at, if_neg (by omega)]; exact k1
    · rw [sI_at, if_neg (by omega)]; exact k2
    · rw [sI_at, if_neg (by omega)]; exact k4 j hj
  refine C_X5_readInto (d := d + 24) hs hB ⟨bb, e0, hB, C_X1_clear s0 hB ⟨rfl, s2, ?_⟩⟩
  refine x_goTo0 (T := T) (n := n) (C := []) (a' := 0) s2 hB hn100 ?_ (fun i hi => ?_) hT2 e0 ?_ (fun j hj => absurd hj (by simp)) rfl (Nat.zero_le _) (Nat.le_refl _) (fun σ1 g1 g2 => ⟨rfl, g1.1, ?_⟩)
  · rw [ef, if_neg (by omega), if_neg (by omega)]; exact h1
  · rw [ef, if_neg (by omega), if_neg (by omega)]; exact hT i hi
  · rw [ef, if_neg (by omega), if_pos ⟨rfl, rfl⟩]; rfl
  have B1 : Agk (DTx bb) σ σ1 := t2 A2 (g2.mono DFx_DBx)
  have hC1 : CX bb [] [] σ1.2.1 := ⟨by rw [g2.2.2 bb 3 (by unfold DFx; omega), ef, if_pos ⟨rfl, rfl⟩]; rfl, rfl⟩
  have e10 := pCs_s (T := T) (n := n) (m := 9) (a := 0)
  refine x_clause (d := d + 1) g1 hC1 (fun u σ2 C2 f1 f2 f3 => ⟨true, rfl, f1.1, ?_⟩) (fun u σ2 C2 f1 f2 => ⟨false, rfl, f1.1, ?_⟩)
  · rw [if_pos u] at e10
    refine x_after (d := d + 1) 9 1 _ C2 _ σ2 rfl f1 f2 (fun v σ3 C3 r1 r2 r3 => ?_) (fun v σ3 C3 r1 r2 => ?_)
    · have B3 := t2 (t2 B1 f3) r3
      rw [List.nil_append] at r2
      unfold pBhx at v r2
      by_cases c1 : (pCl T n 0).2.1 = n
      · rw [if_pos c1] at e10 r2
        rw [e10] at kY
        exact kY rfl σ3 C3 r1 r2 B3
      · rw [if_neg c1, if_neg (by decide)] at e10 v r2
        by_cases c3 : chT T n (pCl T n 0).2.1 = 59
        · rw [if_pos c3] at e10 v r2
          rw [e10] at kY
          exact kY v σ3 C3 r1 r2 B3
        · rw [if_neg c3] at v
          cases v
    · have B3 := t2 (t2 B1 f3) r2
      unfold pBhx at v r1 ⊢
      by_cases c1 : (pCl T n 0).2.1 = n
      · rw [if_pos c1] at v
        cases v
      · rw [if_neg c1, if_neg (by decide)] at e10 v r1 ⊢
        by_cases c3 : chT T n (pCl T n 0).2.1 = 59
        · rw [if_pos c3] at e10 v r1 ⊢
          rw [e10] at kN
          exact kN v σ3 C3 r1 B3
        · rw [if_neg c3] at e10 r1 ⊢
          rw [e10] at kN
          exact kN rfl σ3 C3 r1 B3
  · rw [if_neg (by rw [u]; decide)] at e10
    rw [e10] at kN
    exact x_none (d := d + 24) (i := 1) f1 (by decide) (kN rfl σ2 C2 f1 (t2 B1 f2))
end CLX
