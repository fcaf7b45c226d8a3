/-! on -/
section ONOP
variable {X : mX} {d : Nat} {σ : mS} {Q : Option mV → mS → Prop} {y : Nat} {Y Z : mY} {B : List mCl}
def onOk (Y : mY) (x : Int) : Prop := x = 0 ∨ (10 ≤ x ∧ x - 10 < Y 125 0) ∨ (20 ≤ x ∧ x - 20 < Y 125 0 ∧ x < 30) ∨ (30 ≤ x ∧ x - 30 < Y 125 6)
def onR (Z : mY) (x : Int) : Int := if x = 0 then thr Z (Z 125 6).toNat 0 else if x < 20 then Z 128 (x - 10).toNat else if x < 30 then Z 129 (x - 20).toNat else Z 133 (x - 30).toNat
theorem onR_e {Y Y' : mY} (h : EY Y Y') (x : Int) : onR Y' x = onR Y x := by
  unfold onR
  rw [h.c (k := 6) (by decide), thr_e h, h.a (a := 128) (by decide), h.a (a := 129) (by decide), h.a (a := 133) (by decide)]
theorem onR_r {nb : Int} (h : WFY nb Z) {x : Int} (ho : onOk Z x) : -2147483648 ≤ onR Z x ∧ onR Z x ≤ 2147483647 := by
  have h0 := h.1
  have h6 := h.2.1
  unfold onR
  split
  · have := thr_r h (Z 125 6).toNat 0 (by omega)
    omega
  · unfold onOk at ho
    split
    · have := h.g (p := (x - 10).toNat) (by omega)
      omega
    · split
      · have := h.g (p := (x - 20).toNat) (by omega)
        omega
      · have := h.q (q := (x - 30).toNat) (by omega)
        omega
theorem c_onTried (h : YB σ 55 Z B) {x : Int} (hx : -2147483648 ≤ x ∧ x ≤ 2147483647) (ho : onOk Z x) (hQ : Q (some (vI (onR Z x))) σ) : CALL X (d + 2) (0, 0) MX10_onTried [vP (some 0), vI x] σ Q := by
  have hs := h.1
  have hc := h.c
  have w1 := wI_sub (x := x) (c := 10) hx (by decide)
  have w2 := wI_sub (x := x) (c := 20) hx (by decide)
  have w3 := wI_sub (x := x) (c := 30) hx (by decide)
  have r1 := wI_r (x - 10)
  have r2 := wI_r (x - 20)
  have r3 := wI_r (x - 30)
  unfold onOk at ho
  unfold onR at hQ
  refine C_X10_onTried hs ?_
  by_cases k1 : 10 ≤ x ∧ x - 10 < Z 125 0
  · rw [show wI (x - 10) = (((x - 10).toNat : Nat) : Int) by omega]
    refine c_guardY h (by omega) ⟨_, rfl, hs, fun hz => (by cases hz), fun a ha => ?_⟩
    obtain rfl := Option.some.inj ha
    rw [if_neg (by omega), if_pos (by omega)] at hQ
    rw [(h.g (p := (x - 10).toNat) (by omega)).2.2.1]
    exact ⟨h.isG (by omega), hQ⟩
  · refine c_guardN h r1 (by omega) ⟨_, rfl, hs, fun _ => ?_, fun a ha => by cases ha⟩
    by_cases k2 : 20 ≤ x ∧ x - 20 < Z 125 0
    · rw [show wI (x - 20) = (((x - 20).toNat : Nat) : Int) by omega]
      refine c_guardY h (by omega) ⟨_, rfl, hs, fun hz => (by cases hz), fun a ha => ?_⟩
      obtain rfl := Option.some.inj ha
      rw [if_neg (by omega), if_neg (by omega), if_pos (by omega)] at hQ
      rw [(h.g (p := (x - 20).toNat) (by omega)).2.2.2.1]
      exact ⟨h.isG (by omega), hQ⟩
    · refine c_guardN h r2 (by omega) ⟨_, rfl, hs, fun _ => ?_, fun a ha => by cases ha⟩
      by_cases k3 : 30 ≤ x ∧ x - 30 < Z 125 6
      · rw [show wI (x - 30) = (((x - 30).toNat : Nat) : Int) by omega]
        refine c_questionY h (by omega) ⟨_, rfl, hs, fun hz => (by cases hz), fun a ha => ?_⟩
        obtain rfl := Option.some.inj ha
        rw [if_neg (by omega), if_neg (by omega), if_neg (by omega)] at hQ
        rw [(h.q (q := (x - 30).toNat) (by omega)).2.2.1]
        exact ⟨h.isQ (by omega), hQ⟩
      · refine c_questionN h r3 (by omega) ⟨_, rfl, hs, fun _ => ?_, fun a ha => by cases ha⟩
        rw [if_pos (by omega)] at hQ
        exact c_thr h ⟨_, rfl, hs, hQ⟩
theorem YB.from {σ1 : mS} (hX : YB σ y Y B) {y0 : Nat} (h0 : isY y0) (ha : Agk (FYx y0) σ σ1) (hY : YR σ1 y0 Y) : YB σ1 y0 Y B := by
  have hok : okD (FYx y0) := fun a k q => DX_ok h0 a k (Or.inr q)
  refine ⟨ha.1, h0, hY, ?_, hX.2.2.2.2.fr ha hok⟩
  rw [ha.2.2 125 18 (fun q => (hok _ _ q).2.2.1 ⟨rfl, Or.inl rfl⟩)]
  exact hX.2.2.2.1
theorem FYx55_S : ∀ a k, FYx 55 a k → DS a k := fun _ _ h => Or.inr (Or.inr (Or.inl h))
theorem c_on (hX : YB σ 1 Y B) (h11 : Y 125 11 ≤ 9999) {x1 x2 : Int} (h1 : -2147483648 ≤ x1 ∧ x1 ≤ 2147483647) (h2 : -2147483648 ≤ x2 ∧ x2 ≤ 2147483647) (q0 : ¬ onOk Y x2 → Q (some (vI (-1))) σ) (q1 : onOk Y x2 → ¬ (0 ≤ x1 ∧ x1 ≤ 60) → Q (some (vI (-2))) σ)
    (q2 : onOk Y x2 → ∀ N : Nat, x1 = (N : Int) → N ≤ 60 → ∀ σ', Agk DS σ σ' → WFY (σ.2.1 125 18) (hoursY B N Y) → Q (some (vI (onR (hoursY B N Y) x2))) σ') : CALL X (d + 11) (0, 0) MX10_on [vP (some 0), vI x1, vI x2] σ Q := by
  have hs := hX.1
  have hc := hX.c
  have w1 := wI_sub (x := x2) (c := 10) h2 (by decide)
  have w2 := wI_sub (x := x2) (c := 20) h2 (by decide)
  have w3 := wI_sub (x := x2) (c := 30) h2 (by decide)
  have tail : onOk Y x2 → CALL X (d + 10) (0, 0) MX10_isHours [vI x1] σ (fun v20 σ18 => ∃ z17 : Bool, v20 = some (vI (bB z17)) ∧ Sh σ18 ∧ (z17 = false → Q (some (vI (-2))) σ18) ∧ (z17 = true → CALL X (d + 10) (0, 0) MX9_copy [vP (some 55), vP (some 1)] σ18 (fun v26 σ24 => v26 = none ∧ Sh σ24 ∧ CALL X (d + 10) (0, 0) MX7_letPass [vP (some 83), vP (some 55), vI x1] σ24 (fun v31 σ29 => v31 = none ∧ Sh σ29 ∧ CALL X (d + 10) (0, 0) MX10_onTried [vP (some 0), vI x2] σ29 (fun v36 σ34 => ∃ z33 : Int, v36 = some (vI z33) ∧ Sh σ34 ∧ Q (some (vI z33)) σ34))))) := by
    intro ho
    refine c_isHours hs h1 ⟨_, rfl, hs, fun hz => q1 ho (of_decide_eq_false hz), fun hz => ?_⟩
    have hx := of_decide_eq_true hz
    obtain ⟨N, rfl⟩ : ∃ N : Nat, x1 = (N : Int) := ⟨x1.toNat, by omega⟩
    refine c_copy hs (Or.inr (Or.inr rfl)) (Or.inl rfl) (by decide) hX.2.2.1 hX.2.2.2.1 (fun σ1 hA hY => ⟨rfl, hA.1, ?_⟩)
    have k1 := hX.from (Or.inr (Or.inr rfl)) hA hY
    refine c_letPass k1 (by omega) (by omega) (fun σ2 hB k2 => ⟨rfl, hB.1, ?_⟩)
    have hAB : Agk DS σ σ2 := hA.tr hB FYx55_S DX55_S
    refine c_onTried k2 h2 ?_ ⟨_, rfl, hB.1, q2 ho N rfl (by omega) σ2 hAB ?_⟩
    · unfold onOk at ho ⊢
      rw [hoursY_o (by decide), hoursY_o (by decide)]
      exact ho
    · have := k2.2.2.2.1
      rw [hAB.2.2 125 18 (fun q => (DS_ok _ _ q).2.2.1 ⟨rfl, Or.inl rfl⟩)] at this
      exact this
  unfold onOk at tail q0
  refine C_X10_on hs (c_guardAt hs (Or.inl rfl) (wI_r _) (by omega) ⟨_, rfl, hs, c_guardAt hs (Or.inl rfl) (wI_r _) (by omega) ⟨_, rfl, hs, c_questionAt hs (Or.inl rfl) (wI_r _) (by omega) ⟨_, rfl, hs, h2, fun hz => tail (Or.inl hz), fun hz => ⟨fun n1 => ⟨fun n2 => ⟨fun n3 => q0 ?_, fun a ha => ?_⟩, fun a ha => ?_⟩, fun a ha => ?_⟩⟩⟩⟩)
  · have n1 := gAt_none n1
    have n2 := gAt_none n2
    have n3 := qAt_none n3
    omega
  · obtain ⟨g1, g2, rfl⟩ := qAt_some (Or.inl rfl) ha (by omega)
    exact ⟨g1, tail (by omega)⟩
  · obtain ⟨g1, g2, rfl⟩ := gAt_some (Or.inl rfl) ha (by omega)
    exact ⟨g1, tail (by omega)⟩
  · obtain ⟨g1, g2, rfl⟩ := gAt_some (Or.inl rfl) ha (by omega)
    exact ⟨g1, tail (by omega)⟩
theorem m_onL {σ1 σ0 : mS} (hk : KP 152 σ1 (fun _ _ => True) σ0) {N : Nat} (hN : N ≤ 60) {x2 : Int} (h2 : -2147483648 ≤ x2 ∧ x2 ≤ 2147483647) {Z : mY} (ho : onOk Z x2) (hQ : ∀ σ', Agk DS σ1 σ' → Q (some (vI (onR Z x2))) σ') : ∀ (m i : Nat) (σ : mS) (Y1 : mY), i + m = N → Agk DM σ0 σ → MS σ Y1 B → Y1 125 11 + m < 1000000 → hoursY B m Y1 = Z → WP X (d + 8) (0, 0) MX11_on 62 [(0, vP (some 125)), (1, vI (N : Int)), (2, vI x2), (3, vI (i : Int))] [] σ Q := by
  have w1 := wI_sub (x := x2) (c := 10) h2 (by decide)
  have w2 := wI_sub (x := x2) (c := 20) h2 (by decide)
  have w3 := wI_sub (x := x2) (c := 30) h2 (by decide)
  intro m
  induction m with
  | zero =>
    intro i σ Y1 hi hA h h11 hE
    have hs := h.1.1
    have o1 := h.1.one
    have ey := h.ey
    simp only [hoursY] at hE
    subst hE
    have e0 := ey.c (k := 0) (by decide)
    have e6 := ey.c (k := 6) (by decide)
    have hR := onR_e ey x2
    unfold onOk at ho
    refine C_X11_on_62 hs ⟨by omega, by omega, fun _ => ⟨h2, fun n0 => ⟨fun n20 => ⟨fun n30 => ⟨by omega, by omega, m_again hs (Or.inr rfl) (fun σ' hP => ⟨rfl, hP.2.1.1, ?_⟩)⟩, fun n30 => ⟨by omega, by omega, m_again hs (Or.inr rfl) (fun σ' hP => ⟨rfl, hP.2.1.1, ?_⟩)⟩⟩, fun n20 => ⟨by omega, by omega, m_again hs (Or.inr rfl) (fun σ' hP => ⟨rfl, hP.2.1.1, ?_⟩)⟩⟩, fun n0 => m_thr hs o1.2.1 ⟨_, rfl, hs, m_again hs (Or.inr rfl) (fun σ' hP => ⟨rfl, hP.2.1.1, ?_⟩)⟩⟩, fun hz => absurd hz (by omega)⟩
    all_goals have hQ' := hQ σ' (runBack hk hA hP)
    all_goals rw [← hR] at hQ'
    all_goals unfold onR at hQ'
    · rw [if_neg n0, if_neg (by omega), if_neg (by omega)] at hQ'
      rw [show wI (x2 - 30) = x2 - 30 by omega]
      exact hQ'
    · rw [if_neg n0, if_neg (by omega), if_pos (by omega)] at hQ'
      rw [show wI (x2 - 20) = x2 - 20 by omega]
      exact hQ'
    · rw [if_neg n0, if_pos (by omega)] at hQ'
      rw [show wI (x2 - 10) = x2 - 10 by omega]
      exact hQ'
    · rw [if_pos n0] at hQ'
      exact hQ'
  | succ m ih =>
    intro i σ Y1 hi hA h h11 hE
    refine C_X11_on_62 h.1.1 ⟨by omega, by omega, fun hz => absurd hz (by omega), fun _ => m_hour h (by omega) (fun σ2 hA1 h1 => ⟨rfl, hA1.1, ?_⟩)⟩
    rw [show (i : Int) + 1 = ((i + 1 : Nat) : Int) by omega]
    refine ih (i + 1) σ2 _ (by omega) (DM_tr hA hA1) h1 ?_ hE
    rw [hourY_h]
    omega
theorem m_on (hM : MB σ B) (h11 : σ.2.1 125 11 ≤ 9999) {x1 x2 : Int} (h1 : -2147483648 ≤ x1 ∧ x1 ≤ 2147483647) (h2 : -2147483648 ≤ x2 ∧ x2 ≤ 2147483647) (q0 : ¬ onOk σ.2.1 x2 → Q (some (vI (-1))) σ) (q1 : onOk σ.2.1 x2 → ¬ (0 ≤ x1 ∧ x1 ≤ 60) → Q (some (vI (-2))) σ)
    (q2 : onOk σ.2.1 x2 → ∀ N : Nat, x1 = (N : Int) → N ≤ 60 → ∀ σ', Agk DS σ σ' → Q (some (vI (onR (hoursY B N σ.2.1) x2))) σ') : CALL X (d + 11) (0, 0) MX11_on [vP (some 125), vI x1, vI x2] σ Q := by
  have hs := hM.1
  have o1 := hM.one
  have w1 := wI_sub (x := x2) (c := 10) h2 (by decide)
  have w2 := wI_sub (x := x2) (c := 20) h2 (by decide)
  have w3 := wI_sub (x := x2) (c := 30) h2 (by decide)
  have tail : onOk σ.2.1 x2 → CALL X (d + 10) (0, 0) MX11_within [vI x1, vI 0, vI 60] σ (fun v5 σ3 => ∃ z2 : Bool, v5 = some (vI (bB z2)) ∧ Sh σ3 ∧ (z2 = false → Q (some (vI (-2))) σ3) ∧ (z2 = true → CALL X (d + 10) (0, 0) MX11_keep [vP (some 125), vP (some 152)] σ3 (fun v11 σ9 => v11 = none ∧ Sh σ9 ∧ WP X (d + 11) (0, 0) MX11_on 62 [(0, vP (some 125)), (1, vI x1), (2, vI x2), (3, vI 0)] [] σ9 Q))) := by
    intro ho
    refine c_within hs h1 (by decide) (by decide) ⟨_, rfl, hs, fun hz => q1 ho (of_decide_eq_false hz), fun hz => m_keep hs (Or.inr rfl) (fun σ1 hk => ⟨rfl, hk.2.1.1, ?_⟩)⟩
    have hx := of_decide_eq_true hz
    obtain ⟨N, rfl⟩ : ∃ N : Nat, x1 = (N : Int) := ⟨x1.toNat, by omega⟩
    have hM1 := hk.mb hM
    have e1 := hk.ey
    have e11 := e1.c (k := 11) (by decide)
    refine m_onL (d := d + 3) hk (by omega) h2 (Z := hoursY B N σ1.2.1) ?_ (fun σ' hA => ?_) N 0 σ1 _ (by omega) (Agk.rf hk.2.1.1) hM1.ms (by omega) rfl
    · unfold onOk at ho ⊢
      rw [hoursY_o (by decide), hoursY_o (by decide), e1.c (k := 0) (by decide), e1.c (k := 6) (by decide)]
      exact ho
    · rw [onR_e (hoursY_e N e1)]
      exact q2 ho N rfl (by omega) σ' hA
  unfold onOk at tail q0
  refine C_X11_on hs ⟨h2, fun hz => tail (Or.inl hz), fun hz => c_isOne hs (wI_r _) o1.1 ⟨_, rfl, hs, fun n1 => c_isOne hs (wI_r _) o1.1 ⟨_, rfl, hs, fun n2 => c_isAsked hs (wI_r _) o1.2.1 ⟨_, rfl, hs, fun n3 => q0 ?_, fun n3 => tail ?_⟩, fun n2 => tail ?_⟩, fun n1 => tail ?_⟩⟩
  · have n1 := of_decide_eq_false n1
    have n2 := of_decide_eq_false n2
    have n3 := of_decide_eq_false n3
    omega
  · have n3 := of_decide_eq_true n3
    omega
  · have n2 := of_decide_eq_true n2
    omega
  · have n1 := of_decide_eq_true n1
    omega
theorem op_on (hi : Inv σ) {x1 x2 : Int} (h1 : -2147483648 ≤ x1 ∧ x1 ≤ 2147483647) (h2 : -2147483648 ≤ x2 ∧ x2 ≤ 2147483647) : BothI X (d + 11) MX10_on MX11_on [vI x1, vI x2] σ Inv := by
  have hs := hi.1
  obtain ⟨B, hM, hX⟩ := hi.bB
  have h99 := hi.2.1.2.2
  refine c_on hX h99 h1 h2 (fun n => ⟨_, rfl, hs, by decide, m_on hM h99 h1 h2 (fun _ => ⟨rfl, hi⟩) (fun h => absurd h n) (fun h => absurd h n)⟩) (fun o n => ⟨_, rfl, hs, by decide, m_on hM h99 h1 h2 (fun h => absurd o h) (fun _ _ => ⟨rfl, hi⟩) (fun _ N e1 e2 => absurd (show 0 ≤ x1 ∧ x1 ≤ 60 by omega) n)⟩) (fun o N e1 e2 σ1 hA hW => ⟨_, rfl, hA.1, onR_r hW ?_, ?_⟩)
  · unfold onOk at o ⊢
    rw [hoursY_o (by decide), hoursY_o (by decide)]
    exact o
  · have hM1 := hM.fr hA DS_ok DS_m
    have ey := hA.ey DS_m
    have o' : onOk σ1.2.1 x2 := by
      unfold onOk at o ⊢
      rw [ey.c (k := 0) (by decide), ey.c (k := 6) (by decide)]
      exact o
    refine m_on hM1 (by rw [ey.c (by decide)]; exact h99) h1 h2 (fun h => absurd o' h) (fun _ n => absurd (show 0 ≤ x1 ∧ x1 ≤ 60 by omega) n) (fun _ N' e1' e2' σ2 hB => ⟨?_, (hi.ds hA).ds hB⟩)
    have : N' = N := by omega
    subst this
    rw [onR_e (hoursY_e N' ey)]
end ONOP
