/-! BORDER, 15: the reference reads a clause -/
def pAf (T : Nat → Int) (n : Nat) (w : Int) (a : Nat) : Bool × Nat × mCl :=
  if (pNum T n a).1 = true then (if w = 2 then (true, (pNum T n a).2.1, (2, (pNum T n a).2.2, [])) else ((pJd T n (pNum T n a).2.1).1, (pJd T n (pNum T n a).2.1).2.1, (w, (pNum T n a).2.2, (pJd T n (pNum T n a).2.1).2.2))) else (false, (pNum T n a).2.1, cl0)
def DCm (c0 x : Nat) : Nat → Nat → Prop := fun a k => (a = 125 ∧ ((14 ≤ k ∧ k ≤ 17) ∨ k = 26)) ∨ (a = 141 ∧ c0 ≤ k) ∨ (137 ≤ a ∧ a ≤ 140 ∧ k = x)
/-- what a clause, read, leaves in the reference -/
def okMc (T : Nat → Int) (n c0 x : Nat) (R : Bool × Nat × mCl) (σ : mS) (Q : Option mV → mS → Prop) : Prop :=
  (R.1 = true → ∀ σ' : mS, PM T n c0 0 R.2.1 R.2.2.2.2 σ' → σ'.2.1 137 x = R.2.2.1 → σ'.2.1 138 x = R.2.2.2.1 → σ'.2.1 139 x = c0 → σ'.2.1 140 x = R.2.2.2.2.length → Agk (DCm c0 x) σ σ' → Q (some (vI (bB true))) σ') ∧
  (R.1 = false → ∀ σ' : mS, σ'.2.1 125 14 = (R.2.1 : Int) → Agk (DCm c0 x) σ σ' → Q (some (vI (bB false))) σ')
section CLM
variable {X : mX} {d : Nat} {σ : mS} {Q : Option mV → mS → Prop} {T : Nat → Int} {n a c0 x : Nat}
theorem DFnn_DCm : ∀ a k, DFnn a k → DCm c0 x a k := by
  intro a k h
  unfold DFnn at h
  unfold DCm
  omega
theorem DFm_DCm : ∀ a k, DFm c0 a k → DCm c0 x a k := by
  intro a k h
  unfold DFm at h
  unfold DCm
  omega
theorem DCm_tr {a b c : mS} (h : Agk (DCm c0 x) a b) (g : Agk (DCm c0 x) b c) : Agk (DCm c0 x) a c := h.tr g (fun _ _ h => h) (fun _ _ h => h)
theorem m_end {C : List Int} (hx : x < 60) (h : PM T n c0 0 a C σ) (h152 : σ.2.1 139 x = c0) (hQ : ∀ σ', PM T n c0 0 a C σ' → (∀ b k, b ≠ 140 → σ'.2.1 b k = σ.2.1 b k) → σ'.2.1 140 x = C.length → Agk (DCm c0 x) σ σ' → Q (some (vI (bB true))) σ') : WP X (d + 1) (0, 0) MX11_isClause 184 [(0, vP (some 125)), (1, vI (x : Int))] [] σ Q := by
  obtain ⟨hs, ⟨p1, p1', p1''⟩, p2, p3, p4, p5, p6, p7, p8, p9, p10⟩ := h
  have e : (σ.2.1 125 26) - (σ.2.1 139 x) = (C.length : Int) := by omega
  refine C_X11_isClause_184 (x1 := (x : Int)) hs ⟨by omega, by omega, ?_, ?_⟩
  · rw [Int.toNat_natCast]; omega
  · rw [Int.toNat_natCast, e]
    have s1 : Sh (sI σ 140 x (C.length : Int)) := sh_I hs (by omega) (hs.k (a := 140) rfl) (Or.inl (by decide))
    refine hQ _ ⟨s1, ⟨p1, p1', p1''⟩, p2, ?_, ?_, ?_, fun i hi => ?_, p7, ?_, p9, fun j hj => ?_⟩ (fun b k hb => ?_) ?_ ((Agk.rf hs).sI s1 (Or.inr (Or.inr ⟨by decide, by decide, rfl⟩)))
    · rw [sI_at, if_neg (by omega)]; exact p3
    · rw [sI_at, if_neg (by omega)]; exact p4
    · rw [sI_at, if_neg (by omega)]; exact p5
    · rw [sI_at, if_neg (by omega)]; exact p6 i hi
    · rw [sI_at, if_neg (by omega)]; exact p8
    · rw [sI_at, if_neg (by omega)]; exact p10 j hj
    · rw [sI_at, if_neg (by omega)]
    · rw [sI_at, if_pos ⟨rfl, rfl⟩]
theorem m_af (hx : x < 60) (hc0 : c0 ≤ 600) {w : Int} (hw : w = 0 ∨ w = 1 ∨ w = 2) (h : PN T n a σ) (h26 : σ.2.1 125 26 = c0) (hok : okMc T n c0 x (pAf T n w a) σ Q) : WP X (d + 22) (0, 0) MX11_isClause 115 [(0, vP (some 125)), (1, vI (x : Int)), (2, vI w)] [vI 1] σ Q := by
  obtain ⟨hy, hn⟩ := hok
  unfold pAf at hy hn
  refine C_X11_isClause_115 (d := d + 21) h.1 ⟨by decide, fun q => absurd q (by decide), fun _ => n_number (d := d + 20) h (fun u σ1 g1 g2 g3 => ⟨true, rfl, g1.1, (fun q => nomatch q), fun _ => ?_⟩) (fun u σ1 g1 g2 => ⟨false, rfl, g1.1, fun _ => C_X11_isClause_127 g1.1 ?_, (fun q => nomatch q)⟩)⟩
  · rw [if_pos u] at hy hn
    obtain ⟨w1, w2, w3, w4⟩ := pNum_ok u
    obtain ⟨hs, p1, p2, p3, p4, p6, p7⟩ := g1
    have q26 : σ1.2.1 125 26 = c0 := by rw [g2.2.2 125 26 (by unfold DFnn; omega)]; exact h26
    have e15 : (sI σ1 137 x w).2.1 125 15 = (pNum T n a).2.2 := by rw [sI_at, if_neg (by omega)]; exact g3
    have e26 : (sI (sI σ1 137 x w) 138 x (pNum T n a).2.2).2.1 125 26 = c0 := by rw [sI_at, if_neg (by omega), sI_at, if_neg (by omega)]; exact q26
    have s1 : Sh (sI σ1 137 x w) := sh_I hs (by omega) (hs.k (a := 137) rfl) (Or.inl (by decide))
    have s2 : Sh (sI (sI σ1 137 x w) 138 x (pNum T n a).2.2) := sh_I s1 (by omega) (s1.k (a := 138) rfl) (Or.inl (by decide))
    have s3 : Sh (sI (sI (sI σ1 137 x w) 138 x (pNum T n a).2.2) 139 x (c0 : Int)) := sh_I s2 (by omega) (s2.k (a := 139) rfl) (Or.inl (by decide))
    have s4 : Sh (sI (sI (sI (sI σ1 137 x w) 138 x (pNum T n a).2.2) 139 x (c0 : Int)) 125 17 0) := sh_I s3 (by omega) (s3.k (a := 125) rfl) (Or.inl (by decide))
    have ef : ∀ b j, (sI (sI (sI (sI σ1 137 x w) 138 x (pNum T n a).2.2) 139 x (c0 : Int)) 125 17 0).2.1 b j = if b = 125 ∧ j = 17 then 0 else if b = 139 ∧ j = x then (c0 : Int) else if b = 138 ∧ j = x then (pNum T n a).2.2 else if b = 137 ∧ j = x then w else σ1.2.1 b j := fun _ _ => rfl
    have A : Agk (DCm c0 x) σ (sI (sI (sI (sI σ1 137 x w) 138 x (pNum T n a).2.2) 139 x (c0 : Int)) 125 17 0) := ((((g2.mono DFnn_DCm).sI s1 (Or.inr (Or.inr ⟨by decide, by decide, rfl⟩))).sI s2 (Or.inr (Or.inr ⟨by decide, by decide, rfl⟩))).sI s3 (Or.inr (Or.inr ⟨by decide, by decide, rfl⟩))).sI s4 (Or.inl ⟨rfl, Or.inl (by decide)⟩)
    have P : PM T n c0 0 (pNum T n a).2.1 [] (sI (sI (sI (sI σ1 137 x w) 138 x (pNum T n a).2.2) 139 x (c0 : Int)) 125 17 0) := by
      refine ⟨s4, ⟨p1, hc0, by decide⟩, p2, ?_, ?_, ?_, fun i hi => ?_, p7, ?_, by simp, fun j hj => absurd hj (by simp)⟩
      · rw [ef, if_neg (by omega), if_neg (by omega), if_neg (by omega), if_neg (by omega)]; exact p3
      · rw [ef, if_neg (by omega), if_neg (by omega), if_neg (by omega), if_neg (by omega)]; exact p4
      · rw [ef, if_pos ⟨rfl, rfl⟩]; rfl
      · rw [ef, if_neg (by omega), if_neg (by omega), if_neg (by omega), if_neg (by omega)]; exact p6 i hi
      · rw [ef, if_neg (by omega), if_neg (by omega), if_neg (by omega), if_neg (by omega)]; exact q26
    have v0 : (sI (sI (sI (sI σ1 137 x w) 138 x (pNum T n a).2.2) 139 x (c0 : Int)) 125 17 0).2.1 137 x = w := by rw [ef, if_neg (by omega), if_neg (by omega), if_neg (by omega), if_pos ⟨rfl, rfl⟩]
    have v1 : (sI (sI (sI (sI σ1 137 x w) 138 x (pNum T n a).2.2) 139 x (c0 : Int)) 125 17 0).2.1 138 x = (pNum T n a).2.2 := by rw [ef, if_neg (by omega), if_neg (by omega), if_pos ⟨rfl, rfl⟩]
    have v2 : (sI (sI (sI (sI σ1 137 x w) 138 x (pNum T n a).2.2) 139 x (c0 : Int)) 125 17 0).2.1 139 x = c0 := by rw [ef, if_neg (by omega), if_pos ⟨rfl, rfl⟩]
    rw [Int.toNat_natCast, e15, e26]
    refine ⟨by omega, by omega, by omega, fun q => ?_, fun q => ?_⟩
    · have hw2 : w = 2 := by omega
      rw [if_pos hw2] at hy
      exact m_end (d := d + 21) hx P v2 (fun σ2 f1 f2 f3 f4 => hy rfl σ2 f1 (by rw [f2 _ _ (by decide), v0]; exact hw2) (by rw [f2 _ _ (by decide)]; exact v1) (by rw [f2 _ _ (by decide)]; exact v2) f3 (DCm_tr A f4))
    · rw [if_neg (by omega)] at hy hn
      unfold pJd at hy hn
      refine m_is P (by decide) (fun r σ2 f1 f2 => ⟨true, rfl, f1.1, (fun q => nomatch q), fun _ => ?_⟩) (fun r => ⟨false, rfl, s4, fun _ => C_X11_isClause_182 s4 ?_, (fun q => nomatch q)⟩)
      · rw [if_pos r] at hy hn
        refine m_either (D := d + 21) (by omega) f1 ⟨fun σ3 v r1 r2 => ⟨true, rfl, r1.1, (fun q => nomatch q), fun _ => ?_⟩, fun σ3 C3 v r1 r2 => ⟨false, rfl, r1.1, fun _ => C_X11_isClause_182 r1.1 ?_, (fun q => nomatch q)⟩⟩
        · have nd : ∀ b, 137 ≤ b → b ≤ 139 → σ3.2.1 b x = (sI (sI (sI (sI σ1 137 x w) 138 x (pNum T n a).2.2) 139 x (c0 : Int)) 125 17 0).2.1 b x := fun b h1 h2 => (r2.2.2 b x (by unfold DFm; omega)).trans (f2.2.2 b x (by unfold DFm; omega))
          have B : Agk (DCm c0 x) σ σ3 := DCm_tr (DCm_tr A (f2.mono DFm_DCm)) (r2.mono DFm_DCm)
          exact m_end (d := d + 21) hx r1 ((nd 139 (by decide) (by decide)).trans v2) (fun σ4 t1 t2 t3 t4 => hy v σ4 t1 (by rw [t2 _ _ (by decide), nd 137 (by decide) (by decide)]; exact v0) (by rw [t2 _ _ (by decide), nd 138 (by decide) (by decide)]; exact v1) (by rw [t2 _ _ (by decide), nd 139 (by decide) (by decide)]; exact v2) t3 (DCm_tr B t4))
        · exact hn v σ3 r1.2.2.2.2.1 (DCm_tr (DCm_tr A (f2.mono DFm_DCm)) (r2.mono DFm_DCm))
      · rw [if_neg r] at hn
        exact hn rfl _ P.2.2.2.2.1 A
  · rw [if_neg (by rw [u]; decide)] at hn
    exact hn rfl σ1 (by rw [pNum_no u]; exact g1.2.2.2.2.1) (g2.mono DFnn_DCm)
theorem pCj_y {kk : Nat} {w : Int} (hw : w ≠ 2) (u : (pLit T n (strB kk) a).1 = true) : pCj T n kk w a = pAf T n w (pLit T n (strB kk) a).2 := by
  unfold pCj pAf pNd
  rw [if_pos u, if_neg hw]
theorem pCj_n {kk : Nat} {w : Int} (u : (pLit T n (strB kk) a).1 = false) : pCj T n kk w a = (false, (pLit T n (strB kk) a).2, cl0) := by
  unfold pCj pNd
  rw [if_neg (show ¬ (pLit T n (strB kk) a).1 = true by rw [u]; decide)]
  rfl
theorem okMc.onto {R : Bool × Nat × mCl} {σ' : mS} (h : okMc T n c0 x R σ Q) (g : Agk DFnn σ σ') : okMc T n c0 x R σ' Q :=
  ⟨fun u σ2 a1 a2 a3 a4 a5 a6 => h.1 u σ2 a1 a2 a3 a4 a5 (DCm_tr (g.mono DFnn_DCm) a6), fun u σ2 a1 a2 => h.2 u σ2 a1 (DCm_tr (g.mono DFnn_DCm) a2)⟩
theorem m_cl (hx : x < 60) (hc0 : c0 ≤ 600) (h : PN T n a σ) (h26 : σ.2.1 125 26 = c0) (hok : okMc T n c0 x (pCl T n a) σ Q) : CALL X (d + 22) (0, 0) MX11_isClause [vP (some 125), vI (x : Int)] σ Q := by
  have hch := h.ch
  obtain ⟨p1, p2, p3, p4, p6, p7⟩ := h.2
  have sh := h.1
  have e : a < n → σ.2.1 135 ((σ.2.1 125 14).toNat) = chT T n a := fun q => by unfold chT; rw [if_pos q, p4, show ((a : Nat) : Int).toNat = a by omega, p6 a q]
  have f26 : ∀ {σ' : mS}, Agk DFnn σ σ' → σ'.2.1 125 26 = c0 := fun g => by rw [g.2.2 125 26 (by unfold DFnn; omega)]; exact h26
  have bad : ∀ (w : Int) (σ' : mS), Sh σ' → Q (some (vI (bB false))) σ' → WP X (d + 22) (0, 0) MX11_isClause 115 [(0, vP (some 125)), (1, vI (x : Int)), (2, vI w)] [vI 0] σ' Q := fun w σ' hs hq =>
    C_X11_isClause_115 (d := d + 21) hs ⟨by decide, fun _ => C_X11_isClause_127 hs hq, fun q => absurd rfl q⟩
  unfold pCl at hok
  have no : (chT T n a ≠ 107 ∧ chT T n a ≠ 100 ∧ chT T n a ≠ 114) → WP X (d + 22) (0, 0) MX11_isClause 69 [(0, vP (some 125)), (1, vI (x : Int)), (2, vI (-1))] [] σ Q := by
    intro q
    rw [if_neg q.1, if_neg q.2.1, if_neg q.2.2] at hok
    exact C_X11_isClause_69 (d := d + 21) sh ⟨by decide, fun _ => ⟨fun _ => ⟨fun _ => C_X11_isClause_114 (d := d + 21) sh (bad _ _ sh (hok.2 rfl σ p4 (Agk.rf sh))), fun q => absurd q (by decide)⟩, fun q => absurd q (by decide)⟩, fun q => absurd q (by decide)⟩
  have one : ∀ {kk : Nat} {w : Int}, 1 ≤ kk ∧ kk ≤ 6 → w = 0 ∨ w = 1 → okMc T n c0 x (pCj T n kk w a) σ Q → CALL X (d + 21) (0, 0) MX11_isAll [vP (some 125), vO kk] σ (fun v17 σ15 => ∃ z14 : Bool, v17 = some (vI (bB z14)) ∧ Sh σ15 ∧ WP X (d + 22) (0, 0) MX11_isClause 115 [(0, vP (some 125)), (1, vI (x : Int)), (2, vI w)] [vI (bB z14)] σ15 Q) := by
    intro kk w hkk hw hok
    refine n_lits (d := d + 17) hkk h (fun u σ1 g1 g2 => ⟨true, rfl, g1.1, ?_⟩) (fun u σ1 g1 g2 => ⟨false, rfl, g1.1, ?_⟩)
    · rw [pCj_y (by omega) u] at hok
      exact m_af hx hc0 (by omega) g1 (f26 g2) (hok.onto g2)
    · rw [pCj_n u] at hok
      exact bad _ _ g1.1 (hok.2 rfl σ1 g1.2.2.2.2.1 (g2.mono DFnn_DCm))
  refine C_X11_isClause (d := d + 21) sh ⟨fun q => no ?_, fun q => ⟨by omega, by omega, fun q1 => ⟨fun q2 => ⟨fun q3 => ?_, fun q3 => ?_⟩, fun q2 => ?_⟩, fun q1 => ?_⟩⟩
  · have : chT T n a = -1 := by unfold chT; rw [if_neg (by omega)]
    omega
  · rw [e (by omega)] at q1 q2 q3
    exact C_X11_isClause_68 (d := d + 21) sh (no ⟨q1, q2, q3⟩)
  · rw [e (by omega)] at q1 q2 q3
    rw [if_neg q1, if_neg q2, if_pos q3] at hok
    refine C_X11_isClause_68 (d := d + 21) sh (C_X11_isClause_69 (d := d + 21) sh ⟨by decide, fun _ => ⟨fun _ => ⟨fun q => absurd rfl q, fun _ => ?_⟩, fun q => absurd q (by decide)⟩, fun q => absurd q (by decide)⟩)
    refine n_lits (d := d + 17) (by decide) h (fun u σ1 g1 g2 => ⟨true, rfl, g1.1, (fun q => nomatch q), fun _ => ?_⟩) (fun u σ1 g1 g2 => ⟨false, rfl, g1.1, fun _ => C_X11_isClause_114 (d := d + 21) g1.1 ?_, (fun q => nomatch q)⟩)
    · refine m_af hx hc0 (Or.inr (Or.inr rfl)) g1 (f26 g2) ?_
      have : pAf T n 2 (pLit T n (strB 6) a).2 = if (pNum T n (pLit T n (strB 6) a).2).1 = true then (true, (pNum T n (pLit T n (strB 6) a).2).2.1, (2, (pNum T n (pLit T n (strB 6) a).2).2.2, [])) else (false, (pNum T n (pLit T n (strB 6) a).2).2.1, cl0) := by
        unfold pAf
        rw [if_pos (show (2 : Int) = 2 from rfl)]
      rw [this]
      have hok := hok.onto g2
      unfold pNd at hok
      rw [if_pos u] at hok
      cases v : (pNum T n (pLit T n (strB 6) a).2).1 with
      | true =>
        rw [v] at hok
        rw [if_pos rfl]
        exact hok
      | false =>
        rw [v] at hok
        rw [if_neg (by decide)]
        exact ⟨(fun q => nomatch q), hok.2⟩
    · unfold pNd at hok
      rw [if_neg (show ¬ (pLit T n (strB 6) a).1 = true by rw [u]; decide)] at hok
      exact bad _ _ g1.1 (hok.2 rfl σ1 g1.2.2.2.2.1 (g2.mono DFnn_DCm))
  · rw [e (by omega)] at q1 q2
    rw [if_neg q1, if_pos q2] at hok
    exact C_X11_isClause_68 (d := d + 21) sh (C_X11_isClause_69 (d := d + 21) sh ⟨by decide, fun _ => ⟨fun q => absurd rfl q, fun _ => one (kk := 5) (by decide) (Or.inr rfl) hok⟩, fun q => absurd q (by decide)⟩)
  · rw [e (by omega)] at q1
    rw [if_pos q1] at hok
    exact C_X11_isClause_68 (d := d + 21) sh (C_X11_isClause_69 (d := d + 21) sh ⟨by decide, fun q => absurd rfl q, fun _ => one (kk := 1) (by decide) (Or.inl rfl) hok⟩)
end CLM
