/-! BORDER, 9: the reference's tests -/
section TESTM
variable {X : mX} {d : Nat} {σ : mS} {Q : Option mV → mS → Prop} {T : Nat → Int} {n c0 k a : Nat} {C : List Int}
/-- the place of the sign that is read in a String constant, as the reference looks for it -/
theorem m_where {kk : Nat} (hkk : 1 ≤ kk ∧ kk ≤ 6) (h : PM T n c0 k a C σ) {W : Int → Prop} (hW : W (plc (strB kk) (chT T n a) 0)) : (σ.2.1 125 12 ≤ σ.2.1 125 14 → W (-1)) ∧ (¬ σ.2.1 125 12 ≤ σ.2.1 125 14 → 0 ≤ σ.2.1 125 14 ∧ σ.2.1 125 14 < 100 ∧ (σ.2.1 135 ((σ.2.1 125 14).toNat) ≤ 0 → W (-1)) ∧ (¬ σ.2.1 135 ((σ.2.1 125 14).toNat) ≤ 0 → (0 ≤ σ.2.1 135 ((σ.2.1 125 14).toNat) ∧ σ.2.1 135 ((σ.2.1 125 14).toNat) ≤ 127) ∧ W (plc (strB kk) (σ.2.1 135 ((σ.2.1 125 14).toNat)) 0))) := by
  have hch := h.ch
  obtain ⟨hs, ⟨p1, p1', p1''⟩, p2, p3, p4, p5, p6, p7, p8, p9, p10⟩ := h
  have e : a < n → σ.2.1 135 ((σ.2.1 125 14).toNat) = chT T n a := fun q => by unfold chT; rw [if_pos q, p4, show ((a : Nat) : Int).toNat = a by omega, p6 a q]
  have z : ∀ kk, 1 ≤ kk ∧ kk ≤ 6 → plc (strB kk) (-1) 0 = -1 ∧ plc (strB kk) 0 0 = -1 := by
    intro kk h
    have : kk = 1 ∨ kk = 2 ∨ kk = 3 ∨ kk = 4 ∨ kk = 5 ∨ kk = 6 := by omega
    rcases this with rfl | rfl | rfl | rfl | rfl | rfl <;> decide
  obtain ⟨z1, z2⟩ := z kk hkk
  refine ⟨fun q => ?_, fun q => ⟨by omega, by omega, fun r => ?_, fun r => ?_⟩⟩
  · have : chT T n a = -1 := by unfold chT; rw [if_neg (by omega)]
    rw [this, z1] at hW
    exact hW
  · rw [e (by omega)] at r
    have hp := p7 a (by omega)
    have : chT T n a = 0 := by
      have : chT T n a = T a := by unfold chT; rw [if_pos (by omega)]
      omega
    rw [this, z2] at hW
    exact hW
  · rw [e (by omega)] at r ⊢
    exact ⟨by omega, hW⟩
theorem m_test (h : PM T n c0 k a C σ) (hy : (pTst T n a).1 = true → ∀ σ', PM T n c0 k (pTst T n a).2.1 (C ++ (pTst T n a).2.2) σ' → Agk (DFm c0) σ σ' → Q (some (vI (bB true))) σ') (hn : (pTst T n a).1 = false → ∀ σ' C', PM T n c0 k (pTst T n a).2.1 C' σ' → Agk (DFm c0) σ σ' → Q (some (vI (bB false))) σ') : CALL X (d + 4) (0, 0) MX11_isTest [vP (some 125)] σ Q := by
  have e1 := plc_rng (chT T n a) letL 0
  have e2 := plc_rng (chT T n (a + 1)) sigL 0
  simp only [List.length_cons, List.length_nil] at e1 e2
  unfold pTst at hy hn
  have p1 := h.2.1.1
  have p2 := h.2.2.1
  have p4 := h.2.2.2.2.1
  have p9 := h.2.2.2.2.2.2.2.2.2.1
  have body : WP X (d + 4) (0, 0) MX11_isTest 41 [(0, vP (some 125))] [vI (plc letL (chT T n a) 0)] σ Q := by
    refine C_X11_isTest_41 (d := d + 3) h.1 ⟨by omega, fun q => ?_, fun q => ?_⟩
    · have ha := plc_in (T := T) (n := n) (L := letL) (by decide) q
      rw [if_pos q] at hy hn
      obtain ⟨k1, k2⟩ := h.put (j := 14) (k' := k) (a' := a + 1) (z := (σ.2.1 125 14) + 1) (by omega) (by omega) h.2.1.2.2 (by omega) (by omega) (by rw [if_pos rfl]; omega) (by rw [if_neg (by omega)]; exact h.2.2.2.2.2.1.symm)
      have b2 : WP X (d + 4) (0, 0) MX11_isTest 99 [(0, vP (some 125)), (1, vI (plc letL (chT T n a) 0))] [vI (plc sigL (chT T n (a + 1)) 0)] (sI σ 125 14 ((σ.2.1 125 14) + 1)) Q := by
        have q4 := k1.2.2.2.2.1
        refine C_X11_isTest_99 (d := d + 3) k1.1 ⟨by omega, fun r => ?_, fun r => ?_⟩
        · have ha2 := plc_in (T := T) (n := n) (a := a + 1) (L := sigL) (by decide) r
          rw [if_pos r] at hy hn
          obtain ⟨m1, m2⟩ := k1.put (j := 14) (k' := k) (a' := a + 2) (z := ((sI σ 125 14 ((σ.2.1 125 14) + 1)).2.1 125 14) + 1) (by omega) (by omega) h.2.1.2.2 (by omega) (by omega) (by rw [if_pos rfl]; omega) (by rw [if_neg (by omega)]; exact k1.2.2.2.2.2.1.symm)
          have mA := k2.tr m2 (fun _ _ h => h) (fun _ _ h => h)
          refine ⟨by omega, m_number (d := d + 2) m1 (fun u σ' g1 g2 g3 => ?_) (fun u σ' g1 g2 => ?_)⟩
          · obtain ⟨w1, w2, w3, w4⟩ := pNum_ok u
            refine ⟨true, rfl, g1.1, (fun q => nomatch q), fun _ => ?_⟩
            rw [g3]
            refine m_codes (a := (pNum T n (a + 2)).2.1) g1 (by omega) (by omega) (fun σ2 f1 f2 => ⟨true, rfl, f1.1, (fun q => nomatch q), fun _ => C_X11_isTest_152 f1.1 ⟨Or.inr rfl, hy u σ2 ?_ ((mA.tr g2 (fun _ _ h => h) (fun _ _ h => h)).tr f2 (fun _ _ h => h) (fun _ _ h => h))⟩⟩)
            rw [show 3 + 300 * plc letL (chT T n a) 0 + 100 * plc sigL (chT T n (a + 1)) 0 + (pNum T n (a + 2)).2.2 = 3 + (plc letL (chT T n a) 0 * 3 + plc sigL (chT T n (a + 1)) 0) * 100 + (pNum T n (a + 2)).2.2 by omega] at f1
            exact f1
          · have e := pNum_no u
            refine ⟨false, rfl, g1.1, fun _ => C_X11_isTest_151 g1.1 (C_X11_isTest_152 g1.1 ⟨Or.inl rfl, hn u σ' C ?_ (mA.tr g2 (fun _ _ h => h) (fun _ _ h => h))⟩), (fun q => nomatch q)⟩
            show PM T n c0 k (pNum T n (a + 2)).2.1 C _
            rw [e]
            exact g1
        · rw [if_neg r] at hn
          exact hn rfl _ C k1 k2
      have hw := m_where (kk := 4) (by decide) k1 (W := fun z => WP X (d + 4) (0, 0) MX11_isTest 99 [(0, vP (some 125)), (1, vI (plc letL (chT T n a) 0))] [vI z] (sI σ 125 14 ((σ.2.1 125 14) + 1)) Q) b2
      refine ⟨by omega, fun u => C_X11_isTest_98 (d := d + 3) k1.1 (hw.1 u), fun u => ⟨(hw.2 u).1, (hw.2 u).2.1, fun v => C_X11_isTest_98 (d := d + 3) k1.1 ((hw.2 u).2.2.1 v), fun v => s_index (d := d) (by decide) ((hw.2 u).2.2.2 v).1 ⟨_, rfl, k1.1, ((hw.2 u).2.2.2 v).2⟩⟩⟩
    · rw [if_neg q] at hn
      exact hn rfl _ C h (Agk.rf h.1)
  have hw := m_where (kk := 3) (by decide) h (W := fun z => WP X (d + 4) (0, 0) MX11_isTest 41 [(0, vP (some 125))] [vI z] σ Q) body
  exact C_X11_isTest (d := d + 3) h.1 ⟨fun u => C_X11_isTest_40 (d := d + 3) h.1 (hw.1 u), fun u => ⟨(hw.2 u).1, (hw.2 u).2.1, fun v => C_X11_isTest_40 (d := d + 3) h.1 ((hw.2 u).2.2.1 v), fun v => s_index (d := d) (by decide) ((hw.2 u).2.2.2 v).1 ⟨_, rfl, h.1, ((hw.2 u).2.2.2 v).2⟩⟩⟩
end TESTM
