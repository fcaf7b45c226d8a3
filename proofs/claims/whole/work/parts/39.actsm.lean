/-! ACTS of the reference; act, trace, taken -/
section ACTSM
variable {X : mX} {d : Nat} {σ : mS} {Q : Option mV → mS → Prop}
theorem m_above (hs : Sh σ) {x : Int} (hx : -2147483648 ≤ x ∧ x ≤ 2147483647) (hQ : Q (some (vI (if x = 4 then 1 else if x = 5 then 2 else if x = 6 then 3 else 0))) σ) : CALL X d (0, 0) MX11_above [vI x] σ Q := by
  refine C_X11_above hs ⟨hx, fun h => ⟨fun h2 => ⟨fun h3 => ?_, fun h3 => ?_⟩, fun h2 => ?_⟩, fun h => ?_⟩ <;> (repeat' split at hQ) <;> first | exact hQ | (exfalso; omega)
theorem Pushed.m {bs : List Int} {σ σ' : mS} (h : Pushed 125 38 150 bs σ σ') (j : Nat) : σ'.2.1 125 38 = σ.2.1 125 38 + bs.length ∧ σ'.2.1 126 j = σ.2.1 126 j ∧ σ'.2.1 127 j = σ.2.1 127 j :=
  ⟨h.2.2.2.1, h.2.1 _ _ (by decide) (by omega), h.2.1 _ _ (by decide) (by omega)⟩
theorem m_L0 (hs : Sh σ) {x1 x : Int} (hn : 0 ≤ σ.2.1 125 38 ∧ σ.2.1 125 38 ≤ 900) (hQ : ∀ σ', Pushed 125 38 150 [10] σ σ' → Q (some (vI (x + x1))) σ') : CALL X (d + 1) (0, 0) MX11_listens [vP (some 125), vI x1, vI 0, vI x] σ Q := by
  refine C_X11_listens hs ⟨by omega, ?_, ?_, ?_, ?_, ?_, ?_, ?_, ?_⟩ <;> intro hb <;> try (exfalso; omega)
  exact c_ran hs (by decide) (by omega) (fun σ1 hp => ⟨rfl, hp.1, hQ σ1 hp⟩)
theorem m_L13 (hs : Sh σ) {k x1 x : Int} (hk : k = 1 ∨ k = 3) (hn : 0 ≤ σ.2.1 125 38 ∧ σ.2.1 125 38 ≤ 900) (hQ : ∀ σ', Pushed 125 38 150 [10] σ σ' → Q (some (vI (x + x1))) σ') : CALL X (d + 2) (0, 0) MX11_listens [vP (some 125), vI x1, vI k, vI x] σ Q := by
  refine C_X11_listens hs ⟨by omega, ?_, ?_, ?_, ?_, ?_, ?_, ?_, ?_⟩ <;> intro hb <;> try (exfalso; omega)
  all_goals
    subst hb
    exact m_above hs (by decide) ⟨_, rfl, hs, m_L0 hs hn (fun σ1 hp => ⟨_, rfl, hp.1, hQ σ1 hp⟩)⟩
theorem m_L (hs : Sh σ) {k x1 x : Int} (h1 : 0 ≤ x1 ∧ x1 ≤ 5) (hk : 0 ≤ k ∧ k ≤ 6) (hn : 0 ≤ σ.2.1 125 38 ∧ σ.2.1 125 38 ≤ 800) (hQ : ∀ σ', Pushed 125 38 150 (lS (σ.2.1 127 x1.toNat) x1 k x).2 σ σ' → Q (some (vI (lS (σ.2.1 127 x1.toNat) x1 k x).1)) σ') : CALL X (d + 3) (0, 0) MX11_listens [vP (some 125), vI x1, vI k, vI x] σ Q := by
  have l2 : ∀ {d : Nat} {Q : Option mV → mS → Prop}, (∀ σ', Pushed 125 38 150 [30, 10] σ σ' → Q (some (vI (x * 3 + x1))) σ') → CALL X (d + 2) (0, 0) MX11_listens [vP (some 125), vI x1, vI 2, vI x] σ Q := by
    intro d Q hQ
    refine C_X11_listens hs ⟨by omega, ?_, ?_, ?_, ?_, ?_, ?_, ?_, ?_⟩ <;> intro hb <;> try (exfalso; omega)
    refine c_ran hs (by decide) (by omega) (fun σ1 hp => ⟨rfl, hp.1, ?_⟩)
    have hpm := (hp.m x1.toNat).1
    simp only [List.length_cons, List.length_nil] at hpm
    exact m_L0 hp.1 (by omega) (fun σ2 hp2 => ⟨_, rfl, hp2.1, hQ σ2 (hp.tr hp2)⟩)
  unfold lS at hQ
  rcases kinds7 hk with rfl | rfl | rfl | rfl | rfl | rfl | rfl
  · exact m_L0 hs (by omega) hQ
  · exact m_L13 hs (by decide) (by omega) hQ
  · exact l2 hQ
  · exact m_L13 hs (by decide) (by omega) hQ
  · refine C_X11_listens hs ⟨by omega, ?_, ?_, ?_, ?_, ?_, ?_, ?_, ?_⟩ <;> intro hb <;> try (exfalso; omega)
    refine c_ran hs (by decide) (by omega) (fun σ1 hp => ⟨rfl, hp.1, ?_⟩)
    have hpm := (hp.m x1.toNat).1
    simp only [List.length_cons, List.length_nil] at hpm
    exact m_L13 hp.1 (by decide) (by omega) (fun σ2 hp2 => ⟨_, rfl, hp2.1, hQ σ2 (hp.tr hp2)⟩)
  · refine C_X11_listens hs ⟨by omega, ?_, ?_, ?_, ?_, ?_, ?_, ?_, ?_⟩ <;> intro hb <;> try (exfalso; omega)
    exact m_above hs (by decide) ⟨_, rfl, hs, l2 (fun σ1 hp => ⟨_, rfl, hp.1, hQ σ1 hp⟩)⟩
  · refine C_X11_listens hs ⟨by omega, ?_, ?_, ?_, ?_, ?_, ?_, ?_, ?_⟩ <;> intro hb <;> try (exfalso; omega)
    refine c_ran hs (by decide) (by omega) (fun σ1 hp => ⟨rfl, hp.1, ?_⟩)
    have hpm := hp.m x1.toNat
    simp only [List.length_cons, List.length_nil] at hpm
    refine m_L13 hp.1 (by decide) (by omega) (fun σ2 hp2 => ⟨_, rfl, hp2.1, by omega, by omega, ?_⟩)
    rw [(hp2.m x1.toNat).2.2, hpm.2.2]
    exact hQ σ2 (hp.tr hp2)
theorem m_N (hs : Sh σ) {k x1 x : Int} (h1 : 0 ≤ x1 ∧ x1 ≤ 5) (hk : 0 ≤ k ∧ k ≤ 6) (hself : 0 ≤ σ.2.1 126 x1.toNat ∧ σ.2.1 126 x1.toNat ≤ 6) (hn : 0 ≤ σ.2.1 125 38 ∧ σ.2.1 125 38 ≤ 700) (hQ : ∀ σ', Pushed 125 38 150 (nS (σ.2.1 127 x1.toNat) x1 (σ.2.1 126 x1.toNat) k x).2 σ σ' → Q (some (vI (nS (σ.2.1 127 x1.toNat) x1 (σ.2.1 126 x1.toNat) k x).1)) σ') : CALL X (d + 7) (0, 0) MX11_nods [vP (some 125), vI x1, vI k, vI x] σ Q := by
  have n0 : ∀ {d : Nat} {σ : mS} {Q : Option mV → mS → Prop} (hs : Sh σ) {x : Int} (hself : 0 ≤ σ.2.1 126 x1.toNat ∧ σ.2.1 126 x1.toNat ≤ 6) (hn : 0 ≤ σ.2.1 125 38 ∧ σ.2.1 125 38 ≤ 750) (hQ : ∀ σ', Pushed 125 38 150 (n0S (σ.2.1 127 x1.toNat) x1 (σ.2.1 126 x1.toNat) x).2 σ σ' → Q (some (vI (n0S (σ.2.1 127 x1.toNat) x1 (σ.2.1 126 x1.toNat) x).1)) σ'), CALL X (d + 4) (0, 0) MX11_nods [vP (some 125), vI x1, vI 0, vI x] σ Q := by
    intro d σ Q hs x hself hn hQ
    refine C_X11_nods hs ⟨by omega, ?_, ?_, ?_, ?_, ?_, ?_, ?_, ?_⟩ <;> intro hb <;> try (exfalso; omega)
    refine c_ran hs (by decide) (by omega) (fun σ1 hp => ⟨rfl, hp.1, by omega, by omega, ?_⟩)
    have hpm := hp.m x1.toNat
    simp only [List.length_cons, List.length_nil] at hpm
    refine m_L hp.1 h1 (by omega) (by omega) (fun σ2 hp2 => ⟨_, rfl, hp2.1, ?_⟩)
    rw [hpm.2.1, hpm.2.2] at hp2 ⊢
    rw [(hp2.m x1.toNat).2.2, hpm.2.2]
    exact hQ σ2 (hp.tr hp2)
  have n23 : ∀ {d : Nat} {σ : mS} {Q : Option mV → mS → Prop} (hs : Sh σ) {k x : Int} (hk : k = 2 ∨ k = 3) (hself : 0 ≤ σ.2.1 126 x1.toNat ∧ σ.2.1 126 x1.toNat ≤ 6) (hn : 0 ≤ σ.2.1 125 38 ∧ σ.2.1 125 38 ≤ 750) (hQ : ∀ σ', Pushed 125 38 150 (n0S (σ.2.1 127 x1.toNat) x1 (σ.2.1 126 x1.toNat) x).2 σ σ' → Q (some (vI (n0S (σ.2.1 127 x1.toNat) x1 (σ.2.1 126 x1.toNat) x).1)) σ'), CALL X (d + 5) (0, 0) MX11_nods [vP (some 125), vI x1, vI k, vI x] σ Q := by
    intro d σ Q hs k x hk hself hn hQ
    refine C_X11_nods hs ⟨by omega, ?_, ?_, ?_, ?_, ?_, ?_, ?_, ?_⟩ <;> intro hb <;> try (exfalso; omega)
    all_goals
      subst hb
      exact m_above hs (by decide) ⟨_, rfl, hs, n0 hs hself hn (fun σ1 hp => ⟨_, rfl, hp.1, hQ σ1 hp⟩)⟩
  have n1 : ∀ {d : Nat} {σ : mS} {Q : Option mV → mS → Prop} (hs : Sh σ) {x : Int} (hself : 0 ≤ σ.2.1 126 x1.toNat ∧ σ.2.1 126 x1.toNat ≤ 6) (hn : 0 ≤ σ.2.1 125 38 ∧ σ.2.1 125 38 ≤ 740) (hQ : ∀ σ', Pushed 125 38 150 (20 :: (n0S (σ.2.1 127 x1.toNat) x1 (σ.2.1 126 x1.toNat) x).2) σ σ' → Q (some (vI (bxor (n0S (σ.2.1 127 x1.toNat) x1 (σ.2.1 126 x1.toNat) x).1 6))) σ'), CALL X (d + 5) (0, 0) MX11_nods [vP (some 125), vI x1, vI 1, vI x] σ Q := by
    intro d σ Q hs x hself hn hQ
    refine C_X11_nods hs ⟨by omega, ?_, ?_, ?_, ?_, ?_, ?_, ?_, ?_⟩ <;> intro hb <;> try (exfalso; omega)
    refine c_ran hs (by decide) (by omega) (fun σ1 hp => ⟨rfl, hp.1, ?_⟩)
    have hpm := hp.m x1.toNat
    simp only [List.length_cons, List.length_nil] at hpm
    refine n0 hp.1 (by omega) (by omega) (fun σ2 hp2 => ⟨_, rfl, hp2.1, ?_⟩)
    rw [hpm.2.1, hpm.2.2] at hp2 ⊢
    exact hQ σ2 (hp.tr hp2)
  unfold nS at hQ
  rcases kinds7 hk with rfl | rfl | rfl | rfl | rfl | rfl | rfl
  · exact n0 hs hself (by omega) hQ
  · exact n1 hs hself (by omega) hQ
  · exact n23 hs (by decide) hself (by omega) hQ
  · exact n23 hs (by decide) hself (by omega) hQ
  · refine C_X11_nods hs ⟨by omega, ?_, ?_, ?_, ?_, ?_, ?_, ?_, ?_⟩ <;> intro hb <;> try (exfalso; omega)
    refine c_ran hs (by decide) (by omega) (fun σ1 hp => ⟨rfl, hp.1, ?_⟩)
    have hpm := hp.m x1.toNat
    simp only [List.length_cons, List.length_nil] at hpm
    refine n1 hp.1 (by omega) (by omega) (fun σ2 hp2 => ⟨_, rfl, hp2.1, ?_⟩)
    rw [hpm.2.1, hpm.2.2] at hp2 ⊢
    exact hQ σ2 (hp.tr hp2)
  · refine C_X11_nods hs ⟨by omega, ?_, ?_, ?_, ?_, ?_, ?_, ?_, ?_⟩ <;> intro hb <;> try (exfalso; omega)
    exact m_above hs (by decide) ⟨_, rfl, hs, n23 hs (by decide) hself (by omega) (fun σ1 hp => ⟨_, rfl, hp.1, hQ σ1 hp⟩)⟩
  · refine C_X11_nods hs ⟨by omega, ?_, ?_, ?_, ?_, ?_, ?_, ?_, ?_⟩ <;> intro hb <;> try (exfalso; omega)
    refine c_ran hs (by decide) (by omega) (fun σ1 hp => ⟨rfl, hp.1, ?_⟩)
    have hpm := hp.m x1.toNat
    simp only [List.length_cons, List.length_nil] at hpm
    refine n23 hp.1 (by decide) (by omega) (by omega) (fun σ2 hp2 => ⟨_, rfl, hp2.1, ?_⟩)
    rw [hpm.2.1, hpm.2.2] at hp2 ⊢
    have hp2m := (hp2.m x1.toNat).1
    have hlen := n0S_len (σ.2.1 127 x1.toNat) x1 (σ.2.1 126 x1.toNat) x
    exact m_L13 hp2.1 (by decide) (by omega) (fun σ3 hp3 => ⟨_, rfl, hp3.1, hQ σ3 (hp.tr (hp2.tr hp3))⟩)
theorem m_T (hs : Sh σ) {k x1 x : Int} (h1 : 0 ≤ x1 ∧ x1 ≤ 5) (hk : 0 ≤ k ∧ k ≤ 6) (hself : 0 ≤ σ.2.1 126 x1.toNat ∧ σ.2.1 126 x1.toNat ≤ 6) (hn : 0 ≤ σ.2.1 125 38 ∧ σ.2.1 125 38 ≤ 500) (hQ : ∀ σ', Pushed 125 38 150 (tS (σ.2.1 127 x1.toNat) x1 (σ.2.1 126 x1.toNat) k x).2 σ σ' → Q (some (vI (tS (σ.2.1 127 x1.toNat) x1 (σ.2.1 126 x1.toNat) k x).1)) σ') : CALL X (d + 12) (0, 0) MX11_tells [vP (some 125), vI x1, vI k, vI x] σ Q := by
  have t0 : ∀ {d : Nat} {σ : mS} {Q : Option mV → mS → Prop} (hs : Sh σ) {x : Int} (hself : 0 ≤ σ.2.1 126 x1.toNat ∧ σ.2.1 126 x1.toNat ≤ 6) (hn : 0 ≤ σ.2.1 125 38 ∧ σ.2.1 125 38 ≤ 600) (hQ : ∀ σ', Pushed 125 38 150 (t0S (σ.2.1 127 x1.toNat) x1 (σ.2.1 126 x1.toNat) x).2 σ σ' → Q (some (vI (t0S (σ.2.1 127 x1.toNat) x1 (σ.2.1 126 x1.toNat) x).1)) σ'), CALL X (d + 8) (0, 0) MX11_tells [vP (some 125), vI x1, vI 0, vI x] σ Q := by
    intro d σ Q hs x hself hn hQ
    refine C_X11_tells hs ⟨by omega, ?_, ?_, ?_, ?_⟩ <;> intro hb <;> try (exfalso; omega)
    refine c_ran hs (by decide) (by omega) (fun σ1 hp => ⟨rfl, hp.1, by omega, by omega, ?_⟩)
    have hpm := hp.m x1.toNat
    simp only [List.length_cons, List.length_nil] at hpm
    refine m_N hp.1 h1 (by omega) (by omega) (by omega) (fun σ2 hp2 => ⟨_, rfl, hp2.1, ?_⟩)
    rw [hpm.2.1, hpm.2.2] at hp2 ⊢
    exact hQ σ2 (hp.tr hp2)
  have tu : ∀ {d : Nat} {σ : mS} {Q : Option mV → mS → Prop} (hs : Sh σ) {k x : Int} (hk : k = 1 ∨ k = 2) (hself : 0 ≤ σ.2.1 126 x1.toNat ∧ σ.2.1 126 x1.toNat ≤ 6) (hn : 0 ≤ σ.2.1 125 38 ∧ σ.2.1 125 38 ≤ 600) (hQ : ∀ σ', Pushed 125 38 150 (t0S (σ.2.1 127 x1.toNat) x1 (σ.2.1 126 x1.toNat) x).2 σ σ' → Q (some (vI (t0S (σ.2.1 127 x1.toNat) x1 (σ.2.1 126 x1.toNat) x).1)) σ'), CALL X (d + 9) (0, 0) MX11_tells [vP (some 125), vI x1, vI k, vI x] σ Q := by
    intro d σ Q hs k x hk hself hn hQ
    refine C_X11_tells hs ⟨by omega, ?_, ?_, ?_, ?_⟩ <;> intro hb <;> try (exfalso; omega)
    refine m_above hs (by omega) ⟨_, rfl, hs, ?_⟩
    rw [if_neg (by omega), if_neg (by omega), if_neg (by omega)]
    exact t0 hs hself hn (fun σ1 hp => ⟨_, rfl, hp.1, hQ σ1 hp⟩)
  have t3 : ∀ {d : Nat} {Q : Option mV → mS → Prop}, (∀ σ', Pushed 125 38 150 (40 :: ((t0S (σ.2.1 127 x1.toNat) x1 (σ.2.1 126 x1.toNat) x).2 ++ (nS (σ.2.1 127 x1.toNat) x1 (σ.2.1 126 x1.toNat) (σ.2.1 126 x1.toNat) 1).2)) σ σ' → Q (some (vI ((t0S (σ.2.1 127 x1.toNat) x1 (σ.2.1 126 x1.toNat) x).1 + (nS (σ.2.1 127 x1.toNat) x1 (σ.2.1 126 x1.toNat) (σ.2.1 126 x1.toNat) 1).1))) σ') → CALL X (d + 9) (0, 0) MX11_tells [vP (some 125), vI x1, vI 3, vI x] σ Q := by
    intro d Q hQ
    refine C_X11_tells hs ⟨by omega, ?_, ?_, ?_, ?_⟩ <;> intro hb <;> try (exfalso; omega)
    refine c_ran hs (by decide) (by omega) (fun σ1 hp => ⟨rfl, hp.1, ?_⟩)
    have hpm := hp.m x1.toNat
    simp only [List.length_cons, List.length_nil] at hpm
    refine t0 hp.1 (by omega) (by omega) (fun σ2 hp2 => ⟨_, rfl, hp2.1, by omega, by omega, ?_⟩)
    rw [hpm.2.1, hpm.2.2] at hp2 ⊢
    have hp2m := hp2.m x1.toNat
    have hlen := t0S_len (σ.2.1 127 x1.toNat) x1 (σ.2.1 126 x1.toNat) x
    refine m_N hp2.1 h1 (by omega) (by omega) (by omega) (fun σ3 hp3 => ⟨_, rfl, hp3.1, ?_⟩)
    rw [hp2m.2.1, hp2m.2.2, hpm.2.1, hpm.2.2] at hp3 ⊢
    exact hQ σ3 (hp.tr (hp2.tr hp3))
  unfold tS at hQ
  rcases kinds7 hk with rfl | rfl | rfl | rfl | rfl | rfl | rfl
  · exact t0 hs hself (by omega) hQ
  · exact tu hs (by decide) hself (by omega) hQ
  · exact tu hs (by decide) hself (by omega) hQ
  · exact t3 hQ
  · refine C_X11_tells hs ⟨by omega, ?_, ?_, ?_, ?_⟩ <;> intro hb <;> try (exfalso; omega)
    exact m_above hs (by decide) ⟨_, rfl, hs, tu hs (by decide) hself (by omega) (fun σ1 hp => ⟨_, rfl, hp.1, hQ σ1 hp⟩)⟩
  · refine C_X11_tells hs ⟨by omega, ?_, ?_, ?_, ?_⟩ <;> intro hb <;> try (exfalso; omega)
    refine c_ran hs (by decide) (by omega) (fun σ1 hp => ⟨rfl, hp.1, ?_⟩)
    have hpm := hp.m x1.toNat
    simp only [List.length_cons, List.length_nil] at hpm
    refine tu hp.1 (by decide) (by omega) (by omega) (fun σ2 hp2 => ⟨_, rfl, hp2.1, ?_⟩)
    rw [hpm.2.1, hpm.2.2] at hp2 ⊢
    exact hQ σ2 (hp.tr hp2)
  · refine C_X11_tells hs ⟨by omega, ?_, ?_, ?_, ?_⟩ <;> intro hb <;> try (exfalso; omega)
    exact m_above hs (by decide) ⟨_, rfl, hs, t3 (fun σ1 hp => ⟨_, rfl, hp.1, hQ σ1 hp⟩)⟩
end ACTSM
