/-! of -/
section OFOP
variable {X : mX} {d : Nat} {σ : mS} {Q : Option mV → mS → Prop} {y : Nat} {Y Z : mY} {B : List mCl}
def ofR (B : List mCl) (Y : mY) (p : Nat) (x : Int) : Int :=
  if x = 0 then Y 126 p else if x = 1 then Y 127 p else if x = 2 then Y 128 p else if x = 3 then Y 129 p else if x = 4 then optI (bst (stumG B Y p) 4095 1 none) else if x = 5 then (cntF (heaF B Y p) 4096 0 : Int) else if x = 6 then optI (fstF (heaF B Y p) 4096 0)
  else if 10 ≤ x ∧ x - 10 < Y 125 6 then witS B Y p (Y 127 p) (Y 128 p).toNat (Y 131 (x - 10).toNat).toNat else if 20 ≤ x ∧ x - 20 < Y 125 6 then stC (stuOk B Y p (Y 131 (x - 20).toNat).toNat) (nd (Y 131 (x - 20).toNat).toNat (Y 128 p).toNat) 13 0 else -10001
theorem witS_e {Y Y' : mY} (h : EY Y Y') {p : Nat} {v : Int} {s m : Nat} : witS B Y' p v s m = witS B Y p v s m := by
  unfold witS
  rw [witN_cg (h.a (by decide)) (h.a (by decide)) (h.c (by decide)) (h.a (by decide))]
theorem ofR_e {Y Y' : mY} (h : EY Y Y') (p : Nat) (x : Int) : ofR B Y' p x = ofR B Y p x := by
  have e1 : stumG B Y' p = stumG B Y p := by
    funext s
    unfold stumG ansY
    rw [h.a (a := 127) (by decide), h.a (a := 128) (by decide), ansS_e h]
  have e2 : ∀ m, stuOk B Y' p m = stuOk B Y p m := fun m => by
    funext s
    unfold stuOk
    rw [h.a (a := 127) (by decide), h.a (a := 128) (by decide), ansS_e h]
  unfold ofR
  rw [e1, heaF_e h, h.a (a := 126) (by decide), h.a (a := 127) (by decide), h.a (a := 128) (by decide), h.a (a := 129) (by decide), h.c (k := 6) (by decide), h.a (a := 131) (by decide), h.a (a := 131) (by decide), witS_e h, e2]
theorem stC_r {ok : Nat → Bool} {U : Nat} (hU : U < 4096) : -5 ≤ stC ok U 13 0 ∧ stC ok U 13 0 ≤ 4095 := by
  rcases stC_spec ok U 13 0 with ⟨h1, -⟩ | ⟨j, -, -, h3, -, -⟩
  · rw [h1]; decide
  · have := (grd_spec hU j).1
    rw [h3]
    omega
theorem ofR_r {nb : Int} (hW : WFY nb Y) (hB : (∀ c ∈ B, okC c) ∧ B.length ≤ 10) {p : Nat} (hp : p < 6) (x : Int) : -2147483648 ≤ ofR B Y p x ∧ ofR B Y p x ≤ 2147483647 := by
  have wg := hW.g hp
  have w6 := hW.2.1
  have k1 := optI_r (r := bst (stumG B Y p) 4095 1 none) (bst_lt 4095 1 none (by decide) (fun b hb => by cases hb))
  have k2 := cntF_le (heaF B Y p) 4096 0
  have k3 := fstF_r (heaF B Y p) 4096 0
  unfold ofR
  split
  · omega
  · split
    · omega
    · split
      · omega
      · split
        · omega
        · split
          · omega
          · split
            · omega
            · split
              · omega
              · split
                · next hx =>
                  have := witN_r (p := p) (v := Y 127 p) (n := pc (Y 131 (x - 10).toNat).toNat) (k := pc ((Y 131 (x - 10).toNat).toNat &&& (Y 128 p).toNat)) hW hB hp wg.2.1 (pc_le _) (pc_and_le _ _)
                  unfold witS
                  omega
                · split
                  · next hx =>
                    have wq := hW.q (q := (x - 20).toNat) (by omega)
                    have := stC_r (ok := stuOk B Y p (Y 131 (x - 20).toNat).toNat) (nd_lt (k := (Y 128 p).toNat) (show (Y 131 (x - 20).toNat).toNat < 4096 by omega))
                    omega
                  · decide
theorem c_of (hX : YB σ 1 Y B) {p : Nat} (hp : (p : Int) < Y 125 0) {x : Int} (hx : -2147483648 ≤ x ∧ x ≤ 2147483647) (hQ : ∀ σ', Agk DFn σ σ' → Q (some (vI (ofR B Y p x))) σ') : CALL X (d + 8) (0, 0) MX10_of [vP (some 0), vI (p : Int), vI x] σ Q := by
  have hs := hX.1
  have hc := hX.c
  have hp6 : p < 6 := by omega
  have g := hX.g hp6
  have wg := hX.2.2.2.1.g hp6
  have w1 := wI_sub (x := x) (c := 10) hx (by decide)
  have w2 := wI_sub (x := x) (c := 20) hx (by decide)
  have r1 := wI_r (x - 10)
  have r2 := wI_r (x - 20)
  have q0 := hQ σ (Agk.rf hs)
  refine C_X10_of hs (c_guardY hX hp ⟨_, rfl, hs, fun hz => (by cases hz), fun a ha => ?_⟩)
  obtain rfl := Option.some.inj ha
  rw [g.1, g.2.1, g.2.2.1, g.2.2.2.1]
  unfold ofR at hQ q0
  refine ⟨hX.isG hp6, hx, fun hz => ?_, fun hz => ?_, fun hz => ?_, fun hz => ?_, fun hz => ?_, fun hz => ?_, fun hz => ?_, fun hz => ?_⟩
  · rw [if_pos hz] at q0; exact q0
  · rw [if_neg (by omega), if_pos hz] at q0; exact q0
  · rw [if_neg (by omega), if_neg (by omega), if_pos hz] at q0; exact q0
  · rw [if_neg (by omega), if_neg (by omega), if_neg (by omega), if_pos hz] at q0; exact q0
  · refine c_stumps hX hp (fun σ1 hA => ⟨_, rfl, hA.1, ?_⟩)
    have := hQ σ1 hA
    rw [if_neg (by omega), if_neg (by omega), if_neg (by omega), if_neg (by omega), if_pos hz] at this; exact this
  · refine c_knewC hX hp (fun σ1 hA => ⟨_, rfl, hA.1, ?_⟩)
    have := hQ σ1 hA
    rw [if_neg (by omega), if_neg (by omega), if_neg (by omega), if_neg (by omega), if_neg (by omega), if_pos hz] at this; exact this
  · refine c_knewL hX hp (fun σ1 hA => ⟨_, rfl, hA.1, ?_⟩)
    have := hQ σ1 hA
    rw [if_neg (by omega), if_neg (by omega), if_neg (by omega), if_neg (by omega), if_neg (by omega), if_neg (by omega), if_pos hz] at this; exact this
  · have drop : ∀ σ1 : mS, Agk DFn σ σ1 → Q (some (vI (if 10 ≤ x ∧ x - 10 < Y 125 6 then witS B Y p (Y 127 p) (Y 128 p).toNat (Y 131 (x - 10).toNat).toNat else if 20 ≤ x ∧ x - 20 < Y 125 6 then stC (stuOk B Y p (Y 131 (x - 20).toNat).toNat) (nd (Y 131 (x - 20).toNat).toNat (Y 128 p).toNat) 13 0 else -10001))) σ1 := fun σ1 hA => by
      have := hQ σ1 hA
      rw [if_neg (by omega), if_neg (by omega), if_neg (by omega), if_neg (by omega), if_neg (by omega), if_neg (by omega), if_neg (by omega)] at this
      exact this
    obtain ⟨kn, hkn⟩ : ∃ n : Nat, Y 128 p = (n : Int) := ⟨(Y 128 p).toNat, by omega⟩
    refine C_X10_ofQuestion hs (hX.isG hp6) ?_
    by_cases k1 : 10 ≤ x ∧ x - 10 < Y 125 6
    · obtain ⟨q, hq⟩ : ∃ q : Nat, x - 10 = (q : Int) := ⟨(x - 10).toNat, by omega⟩
      have hq6 : q < 6 := by omega
      have wq := hX.2.2.2.1.q hq6
      obtain ⟨mt, hmt⟩ : ∃ n : Nat, Y 131 q = (n : Int) := ⟨(Y 131 q).toNat, by omega⟩
      rw [if_pos k1, hq, show ((q : Int)).toNat = q by omega, hkn, hmt, show ((kn : Int)).toNat = kn by omega, show ((mt : Int)).toNat = mt by omega] at drop
      rw [show wI (x - 10) = (q : Int) by omega]
      refine c_questionY hX (by omega) ⟨_, rfl, hs, fun hz => (by cases hz), fun a ha => ?_⟩
      obtain rfl := Option.some.inj ha
      rw [g.2.2.1, (hX.q hq6).1, hkn, hmt]
      exact ⟨hX.isQ hq6, c_wit hX hp (by omega) (by omega) (fun σ1 hA => ⟨_, rfl, hA.1, _, rfl, hA.1, drop σ1 (hA.mono D85_Fn)⟩)⟩
    · rw [if_neg k1] at drop
      refine c_questionN hX r1 (by omega) ⟨_, rfl, hs, fun _ => ?_, fun a ha => by cases ha⟩
      by_cases k2 : 20 ≤ x ∧ x - 20 < Y 125 6
      · obtain ⟨q, hq⟩ : ∃ q : Nat, x - 20 = (q : Int) := ⟨(x - 20).toNat, by omega⟩
        have hq6 : q < 6 := by omega
        have wq := hX.2.2.2.1.q hq6
        obtain ⟨mt, hmt⟩ : ∃ n : Nat, Y 131 q = (n : Int) := ⟨(Y 131 q).toNat, by omega⟩
        rw [if_pos k2, hq, show ((q : Int)).toNat = q by omega, hmt, show ((mt : Int)).toNat = mt by omega] at drop
        rw [show wI (x - 20) = (q : Int) by omega]
        refine c_questionY hX (by omega) ⟨_, rfl, hs, fun hz => (by cases hz), fun a ha => ?_⟩
        obtain rfl := Option.some.inj ha
        rw [(hX.q hq6).1, hmt]
        exact ⟨hX.isQ hq6, c_study hX hp (by omega) (fun σ1 hA => ⟨_, rfl, hA.1, _, rfl, hA.1, drop σ1 (hA.mono D85_Fn)⟩)⟩
      · rw [if_neg k2] at drop
        exact c_questionN hX r2 (by omega) ⟨_, rfl, hs, fun _ => ⟨_, rfl, hs, drop σ (Agk.rf hs)⟩, fun a ha => by cases ha⟩
theorem m_of (hM : MB σ B) {p : Nat} (hp : (p : Int) < σ.2.1 125 0) {x : Int} (hx : -2147483648 ≤ x ∧ x ≤ 2147483647) (hQ : ∀ σ', Agk D155 σ σ' → Q (some (vI (ofR B σ.2.1 p x))) σ') : CALL X (d + 8) (0, 0) MX11_of [vP (some 125), vI (p : Int), vI x] σ Q := by
  have hs := hM.1
  have o1 := hM.one
  have hp6 : p < 6 := by omega
  have wg := hM.2.1.g hp6
  have w1 := wI_sub (x := x) (c := 10) hx (by decide)
  have w2 := wI_sub (x := x) (c := 20) hx (by decide)
  have q0 := hQ σ (Agk.rf hs)
  unfold ofR at hQ q0
  refine C_X11_of hs (c_isOne hs (by omega) o1.1 ⟨_, rfl, hs, fun hz => absurd (of_decide_eq_false hz) (by omega), fun _ => c_isAsked hs (wI_r _) o1.2.1 ⟨_, rfl, hs, fun n1 => c_isAsked hs (wI_r _) o1.2.1 ⟨_, rfl, hs, fun n2 => ?_, fun n2 => ?_⟩, fun n1 => ?_⟩⟩)
  · have n1 := of_decide_eq_false n1
    have n2 := of_decide_eq_false n2
    rw [show ((p : Int)).toNat = p by omega]
    refine ⟨hx, fun hz => ⟨by omega, by omega, ?_⟩, fun hz => ⟨by omega, by omega, ?_⟩, fun hz => ⟨by omega, by omega, ?_⟩, fun hz => ⟨by omega, by omega, ?_⟩, fun hz => ?_, fun hz => ?_, fun hz => ?_, fun hz => ?_⟩
    · rw [if_pos hz] at q0; exact q0
    · rw [if_neg (by omega), if_pos hz] at q0; exact q0
    · rw [if_neg (by omega), if_neg (by omega), if_pos hz] at q0; exact q0
    · rw [if_neg (by omega), if_neg (by omega), if_neg (by omega), if_pos hz] at q0; exact q0
    · refine m_stumps (d := d + 1) hM hp6 (fun σ1 hA => ⟨_, rfl, hA.1, ?_⟩)
      have := hQ σ1 hA
      rw [if_neg (by omega), if_neg (by omega), if_neg (by omega), if_neg (by omega), if_pos hz] at this; exact this
    · refine m_knew hM hp6 (x2 := 0) (by decide) (fun σ1 hA => ⟨_, rfl, hA.1, ?_⟩)
      have := hQ σ1 hA
      rw [if_neg (by omega), if_neg (by omega), if_neg (by omega), if_neg (by omega), if_neg (by omega), if_pos hz] at this; exact this
    · refine m_knew hM hp6 (x2 := 1) (by decide) (fun σ1 hA => ⟨_, rfl, hA.1, ?_⟩)
      have := hQ σ1 hA
      rw [if_neg (by omega), if_neg (by omega), if_neg (by omega), if_neg (by omega), if_neg (by omega), if_neg (by omega), if_pos hz] at this; exact this
    · rw [if_neg (by omega), if_neg (by omega), if_neg (by omega), if_neg (by omega), if_neg (by omega), if_neg (by omega), if_neg (by omega), if_neg (by omega), if_neg (by omega)] at q0
      exact q0
  · have n1 := of_decide_eq_false n1
    have n2 := of_decide_eq_true n2
    obtain ⟨q, hq⟩ : ∃ q : Nat, x - 20 = (q : Int) := ⟨(x - 20).toNat, by omega⟩
    have hq6 : q < 6 := by omega
    have wq := hM.2.1.q hq6
    obtain ⟨mt, hmt⟩ : ∃ n : Nat, σ.2.1 131 q = (n : Int) := ⟨(σ.2.1 131 q).toNat, by omega⟩
    rw [show wI (x - 20) = (q : Int) by omega, show ((q : Int)).toNat = q by omega, hmt]
    refine ⟨by omega, by omega, m_study (d := d + 1) hM hp6 (by omega) (fun σ1 hA => ⟨_, rfl, hA.1, ?_⟩)⟩
    have := hQ σ1 hA
    rw [if_neg (by omega), if_neg (by omega), if_neg (by omega), if_neg (by omega), if_neg (by omega), if_neg (by omega), if_neg (by omega), if_neg (by omega), if_pos (by omega), hq, show ((q : Int)).toNat = q by omega, hmt, show ((mt : Int)).toNat = mt by omega] at this
    exact this
  · have n1 := of_decide_eq_true n1
    obtain ⟨q, hq⟩ : ∃ q : Nat, x - 10 = (q : Int) := ⟨(x - 10).toNat, by omega⟩
    have hq6 : q < 6 := by omega
    have wq := hM.2.1.q hq6
    obtain ⟨mt, hmt⟩ : ∃ n : Nat, σ.2.1 131 q = (n : Int) := ⟨(σ.2.1 131 q).toNat, by omega⟩
    rw [show wI (x - 10) = (q : Int) by omega, show ((q : Int)).toNat = q by omega, hmt]
    refine ⟨by omega, by omega, m_wit (d := d + 3) hM hp6 (by omega) (fun σ1 hA => ⟨_, rfl, hA.1, ?_⟩)⟩
    have := hQ σ1 hA
    rw [if_neg (by omega), if_neg (by omega), if_neg (by omega), if_neg (by omega), if_neg (by omega), if_neg (by omega), if_neg (by omega), if_pos (by omega), hq, show ((q : Int)).toNat = q by omega, hmt, show ((mt : Int)).toNat = mt by omega] at this
    exact this
theorem op_of (hi : Inv σ) {x1 x2 : Int} (h1 : -2147483648 ≤ x1 ∧ x1 ≤ 2147483647) (h2 : -2147483648 ≤ x2 ∧ x2 ≤ 2147483647) : BothI X (d + 8) MX10_of MX11_of [vI x1, vI x2] σ Inv := by
  have hs := hi.1
  obtain ⟨B, hM, hX⟩ := hi.bB
  have hc := hX.c
  by_cases hp : 0 ≤ x1 ∧ x1 < σ.2.1 125 0
  · obtain ⟨p, rfl⟩ : ∃ p : Nat, x1 = (p : Int) := ⟨x1.toNat, by omega⟩
    refine c_of hX hp.2 h2 (fun σ1 hA => ⟨_, rfl, hA.1, ofR_r hX.2.2.2.1 hX.2.2.2.2.1 (by omega) _, ?_⟩)
    have hAS := hA.mono DFn_S
    have hM1 := hM.fr hAS DS_ok DS_m
    have ey := hAS.ey DS_m
    refine m_of hM1 (by rw [ey.c (by decide)]; exact hp.2) h2 (fun σ2 hB => ⟨?_, (hi.ds hAS).ds (hB.mono D155_S)⟩)
    rw [ofR_e ey]
  · refine C_X10_of hs (c_guardN hX h1 hp ⟨_, rfl, hs, fun _ => ⟨_, rfl, hs, by decide, ?_⟩, fun a ha => by cases ha⟩)
    exact C_X11_of hs (c_isOne hs h1 hc.2.1 ⟨_, rfl, hs, fun _ => ⟨rfl, hi⟩, fun hz => absurd (of_decide_eq_true hz) hp⟩)
end OFOP
