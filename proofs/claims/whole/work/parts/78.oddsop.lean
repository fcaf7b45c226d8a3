/-! odds, mean -/
section ODDSOP
variable {X : mX} {d : Nat} {σ : mS} {Q : Option mV → mS → Prop} {y : Nat} {Y Z : mY} {B : List mCl}
theorem tmodN (a b : Nat) : ((a : Int)).tmod (b : Int) = ((a % b : Nat) : Int) := rfl
theorem tdivN (a b : Nat) : ((a : Int)).tdiv (b : Int) = ((a / b : Nat) : Int) := rfl
def lowR (part : Int) (above below : Nat) : Int := if part = 0 then ((above / Nat.gcd above below : Nat) : Int) else ((below / Nat.gcd above below : Nat) : Int)
theorem lowR_r {part : Int} {above below : Nat} (h1 : above ≤ 1000) (h2 : below ≤ 1000) : 0 ≤ lowR part above below ∧ lowR part above below ≤ 1000 := by
  have k1 := Nat.div_le_self above (Nat.gcd above below)
  have k2 := Nat.div_le_self below (Nat.gcd above below)
  unfold lowR
  generalize above / Nat.gcd above below = u at *
  generalize below / Nat.gcd above below = w at *
  split <;> omega
theorem gcd_step (a b : Nat) : Nat.gcd b (a % b) = Nat.gcd a b := by
  rw [Nat.gcd_comm b (a % b), ← Nat.gcd_rec, Nat.gcd_comm]
theorem c_lowL (hs : Sh σ) {part : Int} (hpt : 0 ≤ part ∧ part ≤ 1) {above below : Nat} (ha : above ≤ 100) (hb : 1 ≤ below ∧ below ≤ 100) (hQ : Q (some (vL (lowR part above below))) σ) : ∀ (b a i : Nat), Nat.gcd a b = Nat.gcd above below → a ≤ 100 → i + b ≤ 100 → WP X (d + 1) (0, 0) MX10_lowest 8 [(0, vI part), (1, vI (above : Int)), (2, vI (below : Int)), (3, vI (a : Int)), (4, vI (b : Int)), (5, vI (i : Int))] [] σ Q := by
  have hgp : 1 ≤ Nat.gcd above below := Nat.gcd_pos_of_pos_right above (by omega)
  have fin : ∀ a : Nat, Nat.gcd a 0 = Nat.gcd above below → a ≤ 100 → (-2147483648 ≤ (a : Int) ∧ (a : Int) ≤ 2147483647) ∧ (-2147483648 ≤ part ∧ part ≤ 2147483647) ∧ (¬ part = 0 → (-2147483648 < (below : Int) ∧ (below : Int) ≤ 2147483647) ∧ ¬ (max 1 (a : Int)) = 0 ∧ Q (some (vL (((below : Int)).tdiv (max 1 (a : Int))))) σ) ∧ (part = 0 → (-2147483648 < (above : Int) ∧ (above : Int) ≤ 2147483647) ∧ ¬ (max 1 (a : Int)) = 0 ∧ Q (some (vL (((above : Int)).tdiv (max 1 (a : Int))))) σ) := by
    intro a hg ha2
    rw [Nat.gcd_zero_right] at hg
    unfold lowR at hQ
    refine ⟨by omega, by omega, fun hz => ⟨by omega, by omega, ?_⟩, fun hz => ⟨by omega, by omega, ?_⟩⟩
    · rw [show max 1 (a : Int) = (a : Int) by omega, tdivN, hg]
      rw [if_neg hz] at hQ
      exact hQ
    · rw [show max 1 (a : Int) = (a : Int) by omega, tdivN, hg]
      rw [if_pos hz] at hQ
      exact hQ
  intro b
  induction b using Nat.strongRecOn with
  | ind b ih =>
    intro a i hg ha2 hi
    by_cases hb0 : b = 0
    · subst hb0
      exact C_X10_lowest_8 hs ⟨by omega, fun _ => fin a hg ha2, fun _ => ⟨by decide, fun _ => fin a hg ha2, fun hz => absurd rfl hz⟩⟩
    · have hlt : a % b < b := Nat.mod_lt _ (by omega)
      refine C_X10_lowest_8 hs ⟨by omega, fun hz => absurd hz (by omega), fun _ => ⟨by omega, fun hz => absurd hz (by omega), fun _ => ⟨by omega, ?_⟩⟩⟩
      rw [tmodN, show (i : Int) + 1 = ((i + 1 : Nat) : Int) by omega]
      exact ih (a % b) hlt b (i + 1) (by rw [gcd_step]; exact hg) (by omega) (by omega)
theorem c_low (hs : Sh σ) {part : Int} (hpt : 0 ≤ part ∧ part ≤ 1) {above below : Nat} (ha : above ≤ 100) (hb : 1 ≤ below ∧ below ≤ 100) (hQ : Q (some (vL (lowR part above below))) σ) : CALL X (d + 1) (0, 0) MX10_lowest [vI part, vI (above : Int), vI (below : Int)] σ Q :=
  C_X10_lowest hs (c_lowL hs hpt ha hb hQ above below 0 (Nat.gcd_comm below above) hb.2 (by omega))
theorem m_partL (hs : Sh σ) {part : Int} (hpt : 0 ≤ part ∧ part ≤ 1) {above below : Nat} (ha : above ≤ 100) (hb : 1 ≤ below ∧ below ≤ 100) (hQ : Q (some (vL (lowR part above below))) σ) : ∀ (b a : Nat), Nat.gcd a b = Nat.gcd above below → a ≤ 100 → b ≤ 100 → WP X d (0, 0) MX11_part 6 [(0, vL (above : Int)), (2, vL (below : Int)), (4, vI part), (5, vL (a : Int)), (7, vL (b : Int))] [] σ Q := by
  have hgp : 1 ≤ Nat.gcd above below := Nat.gcd_pos_of_pos_right above (by omega)
  intro b
  induction b using Nat.strongRecOn with
  | ind b ih =>
    intro a hg ha2 hb2
    refine C_X11_part_6 hs ⟨by omega, fun hz => ⟨by omega, fun hz2 => ?_, fun hz2 => ?_⟩, fun hz => ?_⟩
    · have hb0 := jcmp_0.mp hz
      obtain rfl : b = 0 := by omega
      rw [Nat.gcd_zero_right] at hg
      unfold lowR at hQ
      rw [if_neg hz2] at hQ
      refine ⟨by omega, by omega, by omega, ?_⟩
      rw [tdivN, hg]
      exact hQ
    · have hb0 := jcmp_0.mp hz
      obtain rfl : b = 0 := by omega
      rw [Nat.gcd_zero_right] at hg
      unfold lowR at hQ
      rw [if_pos hz2] at hQ
      refine ⟨by omega, by omega, by omega, ?_⟩
      rw [tdivN, hg]
      exact hQ
    · have hb0 : ¬ (b : Int) = 0 := fun q => hz (jcmp_0.mpr q)
      have hlt : a % b < b := Nat.mod_lt _ (by omega)
      refine ⟨by omega, hb0, ?_⟩
      rw [tmodN]
      exact ih (a % b) hlt b (by rw [gcd_step]; exact hg) (by omega) (by omega)
theorem m_part (hs : Sh σ) {part : Int} (hpt : 0 ≤ part ∧ part ≤ 1) {above below : Nat} (ha : above ≤ 100) (hb : 1 ≤ below ∧ below ≤ 100) (hQ : Q (some (vL (lowR part above below))) σ) : CALL X d (0, 0) MX11_part [vL (above : Int), vL (below : Int), vI part] σ Q :=
  C_X11_part hs (m_partL hs hpt ha hb hQ below above rfl ha hb.2)
/-- how many of the 12 matters, come to those of the question, it can answer -/
def oddF (B : List mCl) (Y : mY) (p m0 : Nat) : Nat → Bool := fun i => ansY B Y p (m0 ||| 2 ^ i)
theorem c_oddL {σ0 : mS} {p m0 : Nat} (hp : (p : Int) < Y 125 0) (hm0 : m0 < 4096) {R : Int} (hQ : ∀ σ', Agk D85 σ0 σ' → Q (some (vI R)) σ') : ∀ (m i : Nat) (c : Int) (σ : mS), i + m = 12 → Agk D85 σ0 σ → YB σ y Y B → c + (cntF (oddF B Y p m0) m i : Int) = R → WP X (d + 7) (0, 0) MX2_oddsAbove 6 [(0, vP (some 82)), (1, vP (some y)), (2, vI (p : Int)), (3, vI (m0 : Int)), (4, vI c), (5, vI (i : Int))] [] σ Q := by
  intro m
  induction m with
  | zero =>
    intro i c σ hm hA h hR
    simp only [cntF] at hR
    have hR : c = R := by omega
    subst hR
    exact C_X2_oddsAbove_6 h.1 h.2.1 ⟨by omega, fun _ => hQ σ hA, fun hz => absurd hz (by omega)⟩
  | succ m ih =>
    intro i c σ hm hA h hR
    have h2 : 2 ^ i < 4096 := Nat.lt_of_lt_of_le (Nat.pow_lt_pow_right (by decide) (show i < 12 by omega)) (by decide)
    refine C_X2_oddsAbove_6 h.1 h.2.1 ⟨by omega, fun hz => absurd hz (by omega), fun _ => ?_⟩
    rw [bshl_1 i (by omega), bor_n (by omega) (by omega), show (i : Int) + 1 = ((i + 1 : Nat) : Int) by omega]
    refine c_ansNow h hp (or_lt hm0 h2) (fun σ1 hA1 => ⟨_, rfl, hA1.1, fun hz => ?_, fun hz => ?_⟩)
    · rw [cntF_n (show oddF B Y p m0 i = false from hz)] at hR
      exact ih (i + 1) _ σ1 (by omega) (hA.tr hA1 (fun _ _ q => q) (fun _ _ q => q)) (h.f85 hA1) (by omega)
    · rw [cntF_y (show oddF B Y p m0 i = true from hz)] at hR
      exact ih (i + 1) _ σ1 (by omega) (hA.tr hA1 (fun _ _ q => q) (fun _ _ q => q)) (h.f85 hA1) (by omega)
theorem m_oddL {σ0 : mS} (h0 : MB σ0 B) {p q m0 : Nat} (hp : p < 6) (hq : q < 6) (hmt : σ0.2.1 131 q = (m0 : Int)) (hm0 : m0 < 4096) {part : Int} (hpt : 0 ≤ part ∧ part ≤ 1) {c0 : Nat} (hc0 : c0 ≤ 12) (hQ : ∀ σ', Agk D155 σ0 σ' → Q (some (vL (lowR part c0 12))) σ') : ∀ (m i c : Nat) (σ : mS), i + m = 12 → Agk D155 σ0 σ → c + cntF (oddF B σ0.2.1 p m0) m i = c0 → WP X (d + 6) (0, 0) MX11_odds 35 [(0, vP (some 125)), (1, vI (p : Int)), (2, vI (q : Int)), (3, vI part), (4, vI (c : Int)), (5, vI (i : Int))] [] σ Q := by
  intro m
  induction m with
  | zero =>
    intro i c σ hm hA hR
    simp only [cntF, Nat.add_zero] at hR
    subst hR
    exact C_X11_odds_35 hA.1 ⟨by omega, fun _ => ⟨by omega, m_part (below := 12) hA.1 hpt (by omega) (by decide) ⟨_, rfl, hA.1, hQ σ hA⟩⟩, fun hz => absurd hz (by omega)⟩
  | succ m ih =>
    intro i c σ hm hA hR
    have h2 : 2 ^ i < 4096 := Nat.lt_of_lt_of_le (Nat.pow_lt_pow_right (by decide) (show i < 12 by omega)) (by decide)
    refine C_X11_odds_35 hA.1 ⟨by omega, fun hz => absurd hz (by omega), fun _ => ⟨by omega, by omega, ?_⟩⟩
    rw [show ((q : Int)).toNat = q by omega, hA.n155 (a := 131) (by decide), hmt, bshl_1 i (by omega), bor_n (by omega) (by omega), show (i : Int) + 1 = ((i + 1 : Nat) : Int) by omega]
    refine m_ans (h0.f155 hA) hp (or_lt hm0 h2) (fun σ1 hA1 => ⟨_, rfl, hA1.1, fun hz => ?_, fun hz => ?_⟩)
    all_goals rw [ansY_155 hA] at hz
    · rw [cntF_n (show oddF B σ0.2.1 p m0 i = false from hz)] at hR
      exact ih (i + 1) c σ1 (by omega) (D155_tr hA hA1) hR
    · rw [cntF_y (show oddF B σ0.2.1 p m0 i = true from hz)] at hR
      rw [show (c : Int) + 1 = ((c + 1 : Nat) : Int) by omega]
      exact ih (i + 1) (c + 1) σ1 (by omega) (D155_tr hA hA1) (by omega)
theorem op_odds (hi : Inv σ) {x1 x2 x3 : Int} (h1 : -2147483648 ≤ x1 ∧ x1 ≤ 2147483647) (h2 : -2147483648 ≤ x2 ∧ x2 ≤ 2147483647) (h3 : -2147483648 ≤ x3 ∧ x3 ≤ 2147483647) : BothL X (d + 8) MX10_odds MX11_odds [vI x1, vI x2, vI x3] σ Inv := by
  have hs := hi.1
  obtain ⟨B, hM, hX⟩ := hi.bB
  have hc := hX.c
  have mno : ¬ (0 ≤ x1 ∧ x1 < σ.2.1 125 0) ∨ ¬ (0 ≤ x2 ∧ x2 < σ.2.1 125 6) ∨ ¬ (0 ≤ x3 ∧ x3 ≤ 1) → CALL X (d + 8) (0, 0) MX11_odds [vP (some 125), vI x1, vI x2, vI x3] σ (fun v' σ2 => v' = some (vL (-9223372036854775808)) ∧ Inv σ2) := fun hn =>
    C_X11_odds hs (c_isOne hs h1 hc.2.1 ⟨_, rfl, hs, fun _ => ⟨rfl, hi⟩, fun g1 => c_isAsked hs h2 hc.2.2.1 ⟨_, rfl, hs, fun _ => ⟨rfl, hi⟩, fun g2 => c_within hs h3 (by decide) (by decide) ⟨_, rfl, hs, fun _ => ⟨rfl, hi⟩, fun g3 => absurd hn (by have := of_decide_eq_true g1; have := of_decide_eq_true g2; have := of_decide_eq_true g3; omega)⟩⟩⟩)
  refine C_X10_odds hs ?_
  by_cases hp : 0 ≤ x1 ∧ x1 < σ.2.1 125 0
  · obtain ⟨p, rfl⟩ : ∃ p : Nat, x1 = (p : Int) := ⟨x1.toNat, by omega⟩
    refine c_guardY hX hp.2 ⟨_, rfl, hs, ?_⟩
    by_cases hq : 0 ≤ x2 ∧ x2 < σ.2.1 125 6
    · obtain ⟨q, rfl⟩ : ∃ q : Nat, x2 = (q : Int) := ⟨x2.toNat, by omega⟩
      have hq6 : q < 6 := by omega
      refine c_questionY hX hq.2 ⟨_, rfl, hs, fun hz => (by cases hz), fun a ha => ?_⟩
      obtain rfl := Option.some.inj ha
      refine ⟨hX.isG (by omega), fun hz => (by cases hz), fun a2 ha2 => ?_⟩
      obtain rfl := Option.some.inj ha2
      refine ⟨hX.isQ hq6, c_isPart hs h3 ⟨_, rfl, hs, fun g3 => ⟨_, rfl, hs, by decide, mno (Or.inr (Or.inr (of_decide_eq_false g3)))⟩, fun g3 => ?_⟩⟩
      have g3 := of_decide_eq_true g3
      have wq := hX.2.2.2.1.q hq6
      obtain ⟨mt, hmt⟩ : ∃ n : Nat, σ.2.1 131 q = (n : Int) := ⟨(σ.2.1 131 q).toNat, by omega⟩
      rw [(hX.q hq6).1, hmt]
      have hcl := cntF_le (oddF B σ.2.1 p mt) 12 0
      refine C_X2_oddsAbove hs (Or.inl rfl) (c_oddL (σ0 := σ) hp.2 (by omega) (fun σ1 hA => ⟨_, rfl, hA.1, ?_⟩) 12 0 0 σ rfl (Agk.rf hs) hX (Int.zero_add _))
      refine c_low (d := d + 6) hA.1 g3 (above := cntF (oddF B σ.2.1 p mt) 12 0) (below := 12) (by omega) (by decide) ⟨_, rfl, hA.1, ?_⟩
      have hlr := lowR_r (part := x3) (above := cntF (oddF B σ.2.1 p mt) 12 0) (below := 12) (by omega) (by omega)
      have hAS : Agk DS σ σ1 := hA.mono (fun a k q => DFn_S a k (D85_Fn a k q))
      have hM1 := hM.fr hAS DS_ok DS_m
      have ey := hAS.ey DS_m
      have o1 := hM1.one
      have e0 := ey.c (k := 0) (by decide)
      have e6 := ey.c (k := 6) (by decide)
      refine ⟨_, rfl, hA.1, by omega, C_X11_odds hA.1 (c_isOne hA.1 h1 o1.1 ⟨_, rfl, hA.1, fun g => absurd (of_decide_eq_false g) (by omega), fun _ => c_isAsked hA.1 h2 o1.2.1 ⟨_, rfl, hA.1, fun g => absurd (of_decide_eq_false g) (by omega), fun _ => c_within hA.1 h3 (by decide) (by decide) ⟨_, rfl, hA.1, fun g => absurd g3 (of_decide_eq_false g), fun _ => ?_⟩⟩⟩)⟩
      have eo : oddF B σ1.2.1 p mt = oddF B σ.2.1 p mt := by
        funext i
        unfold oddF ansY
        rw [ey.a (a := 127) (by decide), ey.a (a := 128) (by decide), ansS_e ey]
      exact m_oddL (σ0 := σ1) (d := d + 2) hM1 (by omega) hq6 (m0 := mt) (by rw [ey.a (by decide), hmt]) (by omega) g3 (c0 := cntF (oddF B σ.2.1 p mt) 12 0) hcl (fun σ2 hB => ⟨rfl, (hi.ds hAS).ds (hB.mono D155_S)⟩) 12 0 0 σ1 rfl (Agk.rf hA.1) (by rw [eo, Nat.zero_add])
    · refine c_questionN hX h2 hq ⟨_, rfl, hs, fun hz => (by cases hz), fun a ha => ?_⟩
      obtain rfl := Option.some.inj ha
      exact ⟨hX.isG (by omega), fun _ => ⟨_, rfl, hs, by decide, mno (Or.inr (Or.inl hq))⟩, fun a2 ha2 => by cases ha2⟩
  · refine c_guardN hX h1 hp ⟨_, rfl, hs, ?_⟩
    have key : ∀ z6 : Option Nat, (none = (none : Option Nat) → ∃ z, some (vL (-9223372036854775808)) = some (vL z) ∧ Sh σ ∧ (-9223372036854775808 ≤ z ∧ z ≤ 9223372036854775807) ∧ CALL X (d + 8) (0, 0) MX11_odds [vP (some 125), vI x1, vI x2, vI x3] σ (fun v' σ2 => v' = some (vL z) ∧ Inv σ2)) := fun _ _ => ⟨_, rfl, hs, by decide, mno (Or.inl hp)⟩
    exact c_questionAt hs (Or.inl rfl) h2 (by omega) ⟨_, rfl, hs, key (qAt σ 1 x2), fun a ha => by cases ha⟩
/-- how many matters are known by the guards from the p-th on -/
def knoS (Y : mY) : Nat → Nat → Nat
  | 0, _ => 0
  | m + 1, p => pc (Y 128 p).toNat + knoS Y m (p + 1)
theorem knoS_le (Y : mY) : ∀ m p, knoS Y m p ≤ 12 * m
  | 0, _ => Nat.le_refl _
  | m + 1, p => by
    have := knoS_le Y m (p + 1)
    have := pc_le (Y 128 p).toNat
    simp only [knoS]
    omega
theorem c_knoL (h : YB σ y Y B) {R : Int} (hQ : Q (some (vI R)) σ) : ∀ (m p : Nat) (s : Int), (p : Int) + m = Y 125 0 → s + (knoS Y m p : Int) = R → WP X (d + 1) (0, 0) MX9_knownCount 4 [(0, vP (some y)), (1, vI s), (2, vI (p : Int))] [] σ Q := by
  have hc := h.c
  intro m
  induction m with
  | zero =>
    intro p s hp hR
    simp only [knoS] at hR
    have hR : s = R := by omega
    subst hR
    exact C_X9_knownCount_4 h.1 h.2.1 ⟨by omega, fun _ => hQ, fun hz => absurd hz (by omega)⟩
  | succ m ih =>
    intro p s hp hR
    simp only [knoS] at hR
    have hp6 : p < 6 := by omega
    have wg := h.2.2.2.1.g hp6
    refine C_X9_knownCount_4 h.1 h.2.1 ⟨by omega, fun hz => absurd hz (by omega), fun _ => c_guardY h (by omega) ⟨_, rfl, h.1, fun hz => (by cases hz), fun a ha => ?_⟩⟩
    obtain rfl := Option.some.inj ha
    obtain ⟨kn, hkn⟩ : ∃ n : Nat, Y 128 p = (n : Int) := ⟨(Y 128 p).toNat, by omega⟩
    rw [hkn, show ((kn : Int)).toNat = kn by omega] at hR
    rw [(h.g hp6).2.2.1, hkn, show (p : Int) + 1 = ((p + 1 : Nat) : Int) by omega]
    exact ⟨h.isG hp6, c_bitCount (by omega) ⟨_, rfl, h.1, ih (p + 1) _ (by omega) (by omega)⟩⟩
theorem m_meanL (hM : MB σ B) {part : Int} (hpt : 0 ≤ part ∧ part ≤ 1) {G c0 : Nat} (hG : σ.2.1 125 0 = (G : Int)) (hG1 : 1 ≤ G) (hc0 : c0 ≤ 72) (hQ : Q (some (vL (lowR part c0 G))) σ) : ∀ (m p s : Nat), p + m = G → s + knoS σ.2.1 m p = c0 → WP X (d + 1) (0, 0) MX11_mean 24 [(0, vP (some 125)), (1, vI part), (2, vI (s : Int)), (3, vI (p : Int))] [] σ Q := by
  have hs := hM.1
  have o1 := hM.one
  intro m
  induction m with
  | zero =>
    intro p s hp hR
    simp only [knoS, Nat.add_zero] at hR
    subst hR
    refine C_X11_mean_24 hs ⟨by omega, fun _ => ⟨by omega, ?_⟩, fun hz => absurd hz (by omega)⟩
    rw [hG]
    exact m_part hs hpt (by omega) (by omega) ⟨_, rfl, hs, hQ⟩
  | succ m ih =>
    intro p s hp hR
    simp only [knoS] at hR
    have hp6 : p < 6 := by omega
    have wg := hM.2.1.g hp6
    refine C_X11_mean_24 hs ⟨by omega, fun hz => absurd hz (by omega), fun _ => ⟨by omega, by omega, ?_⟩⟩
    obtain ⟨kn, hkn⟩ : ∃ n : Nat, σ.2.1 128 p = (n : Int) := ⟨(σ.2.1 128 p).toNat, by omega⟩
    rw [hkn, show ((kn : Int)).toNat = kn by omega] at hR
    rw [show ((p : Int)).toNat = p by omega, hkn, show (p : Int) + 1 = ((p + 1 : Nat) : Int) by omega]
    refine c_bitCount (by omega) ⟨_, rfl, hs, ?_⟩
    rw [show (s : Int) + (pc kn : Int) = ((s + pc kn : Nat) : Int) by omega]
    exact ih (p + 1) (s + pc kn) (by omega) (by omega)
theorem op_mean (hi : Inv σ) {x1 : Int} (h1 : -2147483648 ≤ x1 ∧ x1 ≤ 2147483647) : BothL X (d + 3) MX10_mean MX11_mean [vI x1] σ Inv := by
  have hs := hi.1
  obtain ⟨B, hM, hX⟩ := hi.bB
  have hc := hX.c
  obtain ⟨G, hG⟩ : ∃ n : Nat, σ.2.1 125 0 = (n : Int) := ⟨(σ.2.1 125 0).toNat, by omega⟩
  refine C_X10_mean hs (c_isPart hs h1 ⟨_, rfl, hs, fun g => ⟨_, rfl, hs, by decide, ?_⟩, fun g => ⟨fun g0 => ?_, fun g0 => ⟨_, rfl, hs, by decide, ?_⟩⟩⟩)
  · exact C_X11_mean hs (c_within hs h1 (by decide) (by decide) ⟨_, rfl, hs, fun _ => ⟨rfl, hi⟩, fun k => absurd (of_decide_eq_true k) (of_decide_eq_false g)⟩)
  · have g := of_decide_eq_true g
    have hkl := knoS_le σ.2.1 G 0
    refine C_X9_knownCount hs (Or.inl rfl) (c_knoL hX (R := (knoS σ.2.1 G 0 : Int)) ⟨_, rfl, hs, ?_⟩ G 0 0 (by omega) (by omega))
    rw [hc.1.1, hG]
    have hlr := lowR_r (part := x1) (above := knoS σ.2.1 G 0) (below := G) (by omega) (by omega)
    refine c_low (d := d + 1) hs g (by omega) (by omega) ⟨_, rfl, hs, _, rfl, hs, by omega, ?_⟩
    exact C_X11_mean hs (c_within hs h1 (by decide) (by decide) ⟨_, rfl, hs, fun k => absurd g (of_decide_eq_false k), fun _ => ⟨fun _ => m_meanL (d := d + 2) hM g hG (by omega) (c0 := knoS σ.2.1 G 0) (by omega) ⟨rfl, hi⟩ G 0 0 (by omega) (by omega), fun k => absurd k (by omega)⟩⟩)
  · have g := of_decide_eq_true g
    exact C_X11_mean hs (c_within hs h1 (by decide) (by decide) ⟨_, rfl, hs, fun k => absurd g (of_decide_eq_false k), fun _ => ⟨fun k => absurd (show σ.2.1 125 0 = 0 by omega) k, fun _ => ⟨rfl, hi⟩⟩⟩)
end ODDSOP
