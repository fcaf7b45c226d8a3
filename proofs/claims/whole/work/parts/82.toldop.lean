/-! told -/
section TOLDOP
variable {X : mX} {d : Nat} {σ : mS} {Q : Option mV → mS → Prop} {y : Nat} {Y Z : mY} {B : List mCl}
def toR (B : List mCl) (Y : mY) (x : Int) : Int :=
  if x = 0 then Y 125 11 else if x = 1 then restC B else if x = 2 then thr Y (Y 125 6).toNat 0 else if x = 3 then (cntF (soF Y 2) (Y 125 6).toNat 0 : Int) else if x = 4 then (bitsF (soF Y 0) (Y 125 6).toNat 0 : Int) else if x = 5 then optI (bst (enoG B Y) (2 ^ (Y 125 0).toNat) 0 none) else if x = 6 then ldV B Y (Y 125 6).toNat 0 0
  else if 10 ≤ x ∧ x - 10 < Y 125 6 then ldA B Y (x - 10).toNat (Y 125 6).toNat 0 0 else -1
theorem ansY_e {Y Y' : mY} (h : EY Y Y') (p m : Nat) : ansY B Y' p m = ansY B Y p m := by
  unfold ansY
  rw [h.a (a := 127) (by decide), h.a (a := 128) (by decide), ansS_e h]
theorem ablN_e {Y Y' : mY} (h : EY Y Y') (q : Nat) : ablN B Y' q = ablN B Y q := by
  have e : (fun p => ansY B Y' p (Y 131 q).toNat) = fun p => ansY B Y p (Y 131 q).toNat := funext fun p => ansY_e h p _
  unfold ablN
  rw [h.c (k := 6) (by decide), h.c (k := 0) (by decide), h.a (a := 133) (by decide), h.a (a := 131) (by decide), e]
theorem enoG_e {Y Y' : mY} (h : EY Y Y') : enoG B Y' = enoG B Y := by
  funext s
  have e : enoQ B Y' s = enoQ B Y s := by
    funext q
    have e2 : (fun p => ansY B Y' p (Y 131 q).toNat) = fun p => ansY B Y p (Y 131 q).toNat := funext fun p => ansY_e h p _
    unfold enoQ
    rw [h.c (k := 6) (by decide), h.c (k := 0) (by decide), h.a (a := 131) (by decide), soF_e h, e2]
  unfold enoG
  rw [h.c (k := 6) (by decide), e]
theorem ldB_e {Y Y' : mY} (h : EY Y Y') (q p u : Nat) {W W' : Nat → Int} (hw : W' = W) : ldB B Y' q p u W' = ldB B Y q p u W := by
  unfold ldB
  rw [ablN_e h, h.a (a := 132) (by decide), hw]
theorem ldV_e {Y Y' : mY} (h : EY Y Y') : ∀ m q u, ldV B Y' m q u = ldV B Y m q u
  | 0, _, _ => rfl
  | m + 1, q, u => by
    simp only [ldV]
    have e1 : ldV B Y' m (q + 1) = ldV B Y m (q + 1) := funext fun u => ldV_e h m (q + 1) u
    have e2 : (fun p => ldB B Y' q p u (ldV B Y' m (q + 1))) = fun p => ldB B Y q p u (ldV B Y m (q + 1)) := funext fun p => ldB_e h q p u e1
    rw [e2, e1]
theorem ldP_e {Y Y' : mY} (h : EY Y Y') (m q u : Nat) : ldP B Y' m q u = ldP B Y m q u := by
  unfold ldP
  have e1 : ldV B Y' (m - 1) (q + 1) = ldV B Y (m - 1) (q + 1) := funext fun u => ldV_e h (m - 1) (q + 1) u
  have e2 : (fun p => ldB B Y' q p u (ldV B Y' (m - 1) (q + 1))) = fun p => ldB B Y q p u (ldV B Y (m - 1) (q + 1)) := funext fun p => ldB_e h q p u e1
  rw [e2, ldV_e h]
theorem ldA_e {Y Y' : mY} (h : EY Y Y') : ∀ j m q u, ldA B Y' j m q u = ldA B Y j m q u
  | 0, m, q, u => ldP_e h m q u
  | j + 1, m, q, u => by
    simp only [ldA]
    rw [ldP_e h, ldA_e h j]
theorem toR_e {Y Y' : mY} (h : EY Y Y') (x : Int) : toR B Y' x = toR B Y x := by
  unfold toR
  rw [h.c (k := 11) (by decide), h.c (k := 6) (by decide), h.c (k := 0) (by decide), thr_e h, soF_e h, soF_e h, enoG_e h, ldV_e h, ldA_e h]
theorem toR_r {nb : Int} (hW : WFY nb Y) (hB : ∀ c ∈ B, okC c) (x : Int) : -2147483648 ≤ toR B Y x ∧ toR B Y x ≤ 2147483647 := by
  have w0 := hW.1
  have w6 := hW.2.1
  have w11 := hW.2.2.1
  obtain ⟨N, hN⟩ : ∃ n : Nat, Y 125 6 = (n : Int) := ⟨(Y 125 6).toNat, by omega⟩
  have k1 := restC_r hB
  have k2 := thr_r hW N 0 (by omega)
  have k3 := cntF_le (soF Y 2) N 0
  have k4 := bitsF_lt (soF Y 0) N 0 (by omega)
  have hG := (two_G (Y 125 0).toNat (by omega)).2
  have k5 := optI_r (r := bst (enoG B Y) (2 ^ (Y 125 0).toNat) 0 none) (bst_lt _ 0 none (by omega) (fun b hb => by cases hb))
  have k6 := ldV_0 (B := B) (Y := Y) N 0 0
  have k7 := ldV_r (B := B) hW N 0 0 (by omega)
  have k8 := ldA_r (B := B) (Y := Y) (x - 10).toNat N 0 0
  unfold toR
  rw [hN, show ((N : Int)).toNat = N by omega]
  generalize optI (bst (enoG B Y) (2 ^ (Y 125 0).toNat) 0 none) = e5 at *
  generalize ldV B Y N 0 0 = e6 at *
  generalize ldA B Y (x - 10).toNat N 0 0 = e8 at *
  generalize bitsF (soF Y 0) N 0 = e4 at *
  generalize cntF (soF Y 2) N 0 = e3 at *
  generalize thr Y N 0 = e2 at *
  generalize restC B = e1 at *
  repeat' split
  all_goals omega
theorem c_told (hX : YB σ 1 Y B) {x : Int} (hx : -2147483648 ≤ x ∧ x ≤ 2147483647) (hQ : ∀ σ', Agk DFn σ σ' → Q (some (vI (toR B Y x))) σ') : CALL X (d + 15) (0, 0) MX10_told [vP (some 0), vI x] σ Q := by
  have hs := hX.1
  have hc := hX.c
  have w1 := wI_sub (x := x) (c := 10) hx (by decide)
  have r1 := wI_r (x - 10)
  obtain ⟨N, hN⟩ : ∃ n : Nat, Y 125 6 = (n : Int) := ⟨(Y 125 6).toNat, by omega⟩
  have eN : (Y 125 6).toNat = N := by omega
  have q0 := hQ σ (Agk.rf hs)
  unfold toR at hQ q0
  refine C_X10_told hs ⟨hx, fun hz => ?_, fun hz => c_rest (d := d + 13) hX ⟨_, rfl, hs, ?_⟩, fun hz => c_thr (d := d + 13) hX ⟨_, rfl, hs, ?_⟩, fun hz => c_fin (d := d + 13) hX ⟨_, rfl, hs, ?_⟩, fun hz => c_wait (d := d + 12) hX ⟨_, rfl, hs, ?_⟩, fun hz => c_enough (d := d + 6) hX (fun σ1 hA => ⟨_, rfl, hA.1, ?_⟩), fun hz => c_loadGoods (d := d + 5) hX hN (fun σ1 hA => ⟨_, rfl, hA.1, ?_⟩), fun hz => ?_⟩
  · rw [hc.1.2.2.1]
    rw [if_pos hz] at q0; exact q0
  · rw [if_neg (by omega), if_pos hz] at q0; exact q0
  · rw [if_neg (by omega), if_neg (by omega), if_pos hz] at q0; exact q0
  · rw [if_neg (by omega), if_neg (by omega), if_neg (by omega), if_pos hz] at q0; exact q0
  · rw [if_neg (by omega), if_neg (by omega), if_neg (by omega), if_neg (by omega), if_pos hz] at q0; exact q0
  · have := hQ σ1 hA
    rw [if_neg (by omega), if_neg (by omega), if_neg (by omega), if_neg (by omega), if_neg (by omega), if_pos hz] at this; exact this
  · have := hQ σ1 hA
    rw [if_neg (by omega), if_neg (by omega), if_neg (by omega), if_neg (by omega), if_neg (by omega), if_neg (by omega), if_pos hz, eN] at this; exact this
  · by_cases k1 : 10 ≤ x ∧ x - 10 < Y 125 6
    · obtain ⟨t, ht⟩ : ∃ q : Nat, x - 10 = (q : Int) := ⟨(x - 10).toNat, by omega⟩
      rw [show wI (x - 10) = (t : Int) by omega]
      refine c_questionY hX (by omega) ⟨_, rfl, hs, fun hz => (by cases hz), fun a ha => ?_⟩
      obtain rfl := Option.some.inj ha
      refine ⟨hX.isQ (by omega), c_loadGuard (d := d + 5) hX hN (by omega) (fun σ1 hA => ⟨_, rfl, hA.1, ?_⟩)⟩
      have := hQ σ1 hA
      rw [if_neg (by omega), if_neg (by omega), if_neg (by omega), if_neg (by omega), if_neg (by omega), if_neg (by omega), if_neg (by omega), if_pos k1, eN, ht, show ((t : Int)).toNat = t by omega] at this
      exact this
    · refine c_questionN hX r1 (by omega) ⟨_, rfl, hs, fun _ => ?_, fun a ha => by cases ha⟩
      rw [if_neg (by omega), if_neg (by omega), if_neg (by omega), if_neg (by omega), if_neg (by omega), if_neg (by omega), if_neg (by omega), if_neg k1] at q0
      exact q0
theorem m_told (hM : MB σ B) {x : Int} (hx : -2147483648 ≤ x ∧ x ≤ 2147483647) (hQ : ∀ σ', Agk DTr σ σ' → Q (some (vI (toR B σ.2.1 x))) σ') : CALL X (d + 15) (0, 0) MX11_told [vP (some 125), vI x] σ Q := by
  have hs := hM.1
  have o1 := hM.one
  have w1 := wI_sub (x := x) (c := 10) hx (by decide)
  obtain ⟨N, hN⟩ : ∃ n : Nat, σ.2.1 125 6 = (n : Int) := ⟨(σ.2.1 125 6).toNat, by omega⟩
  have eN : (σ.2.1 125 6).toNat = N := by omega
  have q0 := hQ σ (Agk.rf hs)
  have hb2 := bitsF_lt (soF σ.2.1 2) (σ.2.1 125 6).toNat 0 (by omega)
  have hpc := pc_bits (soF σ.2.1 2) (σ.2.1 125 6).toNat (by omega)
  unfold toR at hQ q0
  refine C_X11_told hs (c_isAsked hs (wI_r _) o1.2.1 ⟨_, rfl, hs, fun n1 => ⟨hx, fun hz => ?_, fun hz => m_rest hM ⟨_, rfl, hs, ?_⟩, fun hz => m_thr hs o1.2.1 ⟨_, rfl, hs, ?_⟩, fun hz => m_so hs o1.2.1 (by decide) ⟨_, rfl, hs, c_bitCount (by omega) ⟨_, rfl, hs, ?_⟩⟩, fun hz => m_so hs o1.2.1 (by decide) ⟨_, rfl, hs, ?_⟩, fun hz => m_enough (d := d + 8) hM (fun σ1 hA => ⟨_, rfl, hA.1, ?_⟩), fun hz => CALL.dep (show d + 7 - N + 7 + N = d + 14 by omega) (m_loads (d := d + 7 - N) hM hN (fun σ1 hA h45 h167 => ⟨rfl, hA.1, ?_⟩)), fun hz => ?_⟩, fun n1 => ?_⟩)
  · rw [if_pos hz] at q0; exact q0
  · rw [if_neg (by omega), if_pos hz] at q0; exact q0
  · rw [if_neg (by omega), if_neg (by omega), if_pos hz] at q0; exact q0
  · rw [hpc]
    rw [if_neg (by omega), if_neg (by omega), if_neg (by omega), if_pos hz] at q0; exact q0
  · rw [if_neg (by omega), if_neg (by omega), if_neg (by omega), if_neg (by omega), if_pos hz] at q0; exact q0
  · have := hQ σ1 (hA.mono D155_Tr)
    rw [if_neg (by omega), if_neg (by omega), if_neg (by omega), if_neg (by omega), if_neg (by omega), if_pos hz] at this; exact this
  · rw [h45]
    have := hQ σ1 hA
    rw [if_neg (by omega), if_neg (by omega), if_neg (by omega), if_neg (by omega), if_neg (by omega), if_neg (by omega), if_pos hz, eN] at this; exact this
  · have n1 := of_decide_eq_false n1
    rw [if_neg (by omega), if_neg (by omega), if_neg (by omega), if_neg (by omega), if_neg (by omega), if_neg (by omega), if_neg (by omega), if_neg (by omega)] at q0
    exact q0
  · have n1 := of_decide_eq_true n1
    obtain ⟨t, ht⟩ : ∃ q : Nat, x - 10 = (q : Int) := ⟨(x - 10).toNat, by omega⟩
    rw [show wI (x - 10) = (t : Int) by omega]
    refine C_X11_loaded (d := d + 13) hs (CALL.dep (show d + 6 - N + 7 + N = d + 13 by omega) (m_loads (d := d + 6 - N) hM hN (fun σ1 hA h45 h167 => ⟨rfl, hA.1, by omega, by omega, _, rfl, hA.1, ?_⟩)))
    rw [show ((t : Int)).toNat = t by omega, h167 t (by omega)]
    have := hQ σ1 hA
    rw [if_neg (by omega), if_neg (by omega), if_neg (by omega), if_neg (by omega), if_neg (by omega), if_neg (by omega), if_neg (by omega), if_pos (by omega), eN, ht, show ((t : Int)).toNat = t by omega] at this
    exact this
theorem op_told (hi : Inv σ) {x1 : Int} (h1 : -2147483648 ≤ x1 ∧ x1 ≤ 2147483647) : BothI X (d + 15) MX10_told MX11_told [vI x1] σ Inv := by
  have hs := hi.1
  obtain ⟨B, hM, hX⟩ := hi.bB
  refine c_told hX h1 (fun σ1 hA => ⟨_, rfl, hA.1, toR_r hX.2.2.2.1 hX.2.2.2.2.1.1 _, ?_⟩)
  have hAS := hA.mono DFn_S
  have hM1 := hM.fr hAS DS_ok DS_m
  have ey := hAS.ey DS_m
  refine m_told hM1 h1 (fun σ2 hB => ⟨?_, (hi.ds hAS).ds (hB.mono DTr_S)⟩)
  rw [toR_e ey]
end TOLDOP
