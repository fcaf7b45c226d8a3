/-! BORDER, 10: the reference reads F -/
section FM
variable {X : mX} {d : Nat} {σ : mS} {Q : Option mV → mS → Prop} {T : Nat → Int} {n c0 k a : Nat} {C : List Int}
def okM (T : Nat → Int) (n c0 f m k a : Nat) (σ : mS) (C : List Int) (Q : Option mV → mS → Prop) : Prop :=
  (∀ σ', (pS T n f m k a).1 = true → PM T n c0 k (pS T n f m k a).2.1 (C ++ (pS T n f m k a).2.2) σ' → Agk (DFm c0) σ σ' → Q (some (vI (bB true))) σ') ∧
  (∀ σ' C', (pS T n f m k a).1 = false → PM T n c0 k (pS T n f m k a).2.1 C' σ' → Agk (DFm c0) σ σ' → Q (some (vI (bB false))) σ')
def MF (X : mX) (T : Nat → Int) (n c0 f : Nat) : Prop := ∀ (D k a : Nat) (C : List Int) (σ : mS) (Q : Option mV → mS → Prop), k ≤ 4 → 4 * (n - a) + 1 ≤ f → 7 + 3 * (4 - k) ≤ D → PM T n c0 k a C σ → okM T n c0 f 0 k a σ C Q → CALL X D (0, 0) MX11_isF [vP (some 125)] σ Q
def ME (X : mX) (T : Nat → Int) (n c0 f : Nat) : Prop := ∀ (D k a : Nat) (C : List Int) (σ : mS) (Q : Option mV → mS → Prop), k ≤ 4 → 4 * (n - a) + 3 ≤ f → 9 + 3 * (4 - k) ≤ D → PM T n c0 k a C σ → okM T n c0 f 2 k a σ C Q → CALL X D (0, 0) MX11_isE [vP (some 125)] σ Q
theorem PM.shut {C' : List Int} {a' : Nat} {σ' : mS} (hk : k < 4) (h : PM T n c0 (k + 1) a' C' σ') : (-2147483648 ≤ (σ'.2.1 125 17) - 1 ∧ (σ'.2.1 125 17) - 1 ≤ 2147483647) ∧ PM T n c0 k a' C' (sI σ' 125 17 ((σ'.2.1 125 17) - 1)) ∧ Agk (DFm c0) σ' (sI σ' 125 17 ((σ'.2.1 125 17) - 1)) := by
  have p5 := h.2.2.2.2.2.1
  obtain ⟨k1, k2⟩ := h.put (j := 17) (k' := k) (a' := a') (z := (σ'.2.1 125 17) - 1) (by omega) (by omega) (by omega) h.2.2.1 h.2.2.2.2.2.2.2.2.2.1 (by rw [if_neg (by omega)]; exact h.2.2.2.2.1.symm) (by rw [if_pos rfl]; omega)
  exact ⟨by omega, k1, k2⟩
theorem MF_step {f : Nat} (hF : MF X T n c0 f) (hE : ME X T n c0 f) : MF X T n c0 (f + 1) := by
  intro D k a C σ Q hk hf hD h hok
  obtain ⟨d, rfl⟩ : ∃ d, D = d + 7 := ⟨D - 7, by omega⟩
  obtain ⟨hy, hn⟩ := hok
  rw [pS_F] at hy hn
  have p2 := h.2.2.1
  have p9 := h.2.2.2.2.2.2.2.2.2.1
  have t1 : ∀ {a b c : mS}, Agk (DFm c0) a b → Agk (DFm c0) b c → Agk (DFm c0) a c := fun x y => x.tr y (fun _ _ h => h) (fun _ _ h => h)
  refine C_X11_isF (d := d + 6) h.1 (m_opened (d := d + 5) h (by decide) (fun c1 ck σ1 g1 g2 => ⟨true, rfl, g1.1, (fun q => nomatch q), fun _ => ?_⟩) (fun c1 => ⟨false, rfl, h.1, fun _ => m_opened (d := d + 5) h (by decide) (fun c2 ck σ1 g1 g2 => ⟨true, rfl, g1.1, (fun q => nomatch q), fun _ => ?_⟩) (fun c2 => ⟨false, rfl, h.1, fun _ => ?_, (fun q => nomatch q)⟩), (fun q => nomatch q)⟩))
  · have ha := chT_in (T := T) (n := n) (a := a) (by rw [c1]; decide)
    rw [if_pos c1, if_pos ck] at hy hn
    refine hF (d + 6) (k + 1) (a + 1) C _ _ (by omega) (by omega) (by omega) g1 ⟨fun σ' u r1 r2 => ?_, fun σ' C' u r1 r2 => ?_⟩
    · obtain ⟨w1, w2, w3, w4, w5⟩ := pS_ok (T := T) (n := n) f 0 (k + 1) (a + 1) (by omega) u
      refine ⟨true, rfl, r1.1, (fun q => nomatch q), fun _ => m_codes r1 (by rw [List.length_append]; omega) (by decide) (fun σ2 f1 f2 => ⟨true, rfl, f1.1, (fun q => nomatch q), fun _ => ?_⟩)⟩
      obtain ⟨s1, s2, s3⟩ := f1.shut ck
      refine ⟨s1, hy _ u ?_ (t1 (t1 (t1 g2 r2) f2) s3)⟩
      rw [List.append_assoc] at s2
      exact s2
    · obtain ⟨s1, s2, s3⟩ := r1.shut ck
      exact ⟨false, rfl, r1.1, fun _ => ⟨s1, hn _ C' u s2 (t1 (t1 g2 r2) s3)⟩, (fun q => nomatch q)⟩
  · have ha := chT_in (T := T) (n := n) (a := a) (by rw [c2]; decide)
    rw [if_neg (by omega), if_pos c2, if_pos ck] at hy hn
    refine hE (d + 6) (k + 1) (a + 1) C _ _ (by omega) (by omega) (by omega) g1 ⟨fun σ' u r1 r2 => ?_, fun σ' C' u r1 r2 => ?_⟩
    · rw [if_pos u] at hy hn
      refine ⟨true, rfl, r1.1, (fun q => nomatch q), fun _ => m_is r1 (by decide) (fun q σ2 f1 f2 => ⟨true, rfl, f1.1, (fun q => nomatch q), fun _ => ?_⟩) (fun q => ⟨false, rfl, r1.1, fun _ => ?_, (fun q => nomatch q)⟩)⟩
      · rw [if_pos q] at hy
        obtain ⟨s1, s2, s3⟩ := f1.shut ck
        exact ⟨s1, hy _ rfl s2 (t1 (t1 (t1 g2 r2) f2) s3)⟩
      · rw [if_neg q] at hn
        obtain ⟨s1, s2, s3⟩ := r1.shut ck
        exact ⟨s1, hn _ _ rfl s2 (t1 (t1 g2 r2) s3)⟩
    · rw [if_neg (by rw [u]; decide)] at hn
      obtain ⟨s1, s2, s3⟩ := r1.shut ck
      exact ⟨false, rfl, r1.1, fun _ => ⟨s1, hn _ C' rfl s2 (t1 (t1 g2 r2) s3)⟩, (fun q => nomatch q)⟩
  · refine m_test (d := d + 2) h (fun u σ' r1 r2 => ⟨true, rfl, r1.1, ?_⟩) (fun u σ' C' r1 r2 => ⟨false, rfl, r1.1, ?_⟩)
    · have l33 : pTst T n a = pTst T n a := rfl
      have q1 : chT T n a ≠ 33 ∧ chT T n a ≠ 40 := by
        refine ⟨fun e => ?_, fun e => ?_⟩ <;> (unfold pTst at u; rw [e, if_neg (by decide)] at u; cases u)
      rw [if_neg q1.1, if_neg q1.2] at hy
      exact hy σ' u r1 r2
    · by_cases e1 : chT T n a = 33
      · have : (pTst T n a).2.1 = a := by unfold pTst; rw [e1]; rfl
        rw [this] at r1
        rw [if_pos e1, if_neg (by rcases c1 with c1 | c1; exact absurd e1 c1; exact c1)] at hn
        exact hn σ' C' rfl r1 r2
      · by_cases e2 : chT T n a = 40
        · have : (pTst T n a).2.1 = a := by unfold pTst; rw [e2]; rfl
          rw [this] at r1
          rw [if_neg e1, if_pos e2, if_neg (by rcases c2 with c2 | c2; exact absurd e2 c2; exact c2)] at hn
          exact hn σ' C' rfl r1 r2
        · rw [if_neg e1, if_neg e2] at hn
          exact hn σ' C' u r1 r2
end FM
