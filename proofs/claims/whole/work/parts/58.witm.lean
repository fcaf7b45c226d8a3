/-! WIT, as the reference works it out -/
section WITM
variable {X : mX} {d : Nat} {σ : mS} {Q : Option mV → mS → Prop} {B : List mCl}
def D155 : Nat → Nat → Prop := fun a _ => a = 142
theorem D155_ok : okD D155 := fun a k h => by unfold D155 at h; omega
theorem MB.f155 {σ' : mS} (h : MB σ B) (ha : Agk D155 σ σ') : MB σ' B := h.fr ha D155_ok (fun a k h => by unfold D155 at h; unfold FYm; omega)
theorem Agk.n155 {σ' : mS} (h : Agk D155 σ σ') {a k : Nat} (ha : a ≠ 142) : σ'.2.1 a k = σ.2.1 a k := h.2.2 a k ha
theorem m_letter (h : MB σ B) {p m l : Nat} (hp : p < 6) (hm : m < 4096) (hl : l < 6) (hQ : Q (some (vI (facF σ.2.1 p (σ.2.1 127 p) (pc m) l))) σ) : CALL X (d + 1) (0, 0) MX11_letterOf [vP (some 125), vI (p : Int), vI (m : Int), vI (l : Int)] σ Q := by
  have hs := h.1
  have g := h.2.1.g hp
  have hh := h.2.1.2.2.1
  refine C_X11_letterOf hs ⟨by omega, fun e => ?_, fun e => ⟨by omega, by omega, ?_⟩, fun e => ⟨by omega, by omega, ?_⟩, fun e => ⟨by omega, by omega, by rw [show ((p : Int)).toNat = p by omega]; omega, ?_⟩, fun e => ?_, fun e => ⟨by omega, ?_⟩⟩
  · obtain rfl : l = 0 := by omega
    exact hQ
  · obtain rfl : l = 1 := by omega
    exact hQ
  · obtain rfl : l = 2 := by omega
    exact hQ
  · obtain rfl : l = 3 := by omega
    rw [show ((p : Int)).toNat = p by omega, tdiv10 (by omega)]
    exact hQ
  · obtain rfl : l = 4 := by omega
    exact c_bitCount hm ⟨_, rfl, hs, hQ⟩
  · obtain rfl : l = 5 := by omega
    rw [tmod10 (by omega)]
    exact hQ
theorem stR_set {b : Bool} {r : List Bool} (h : stR (σ.2.1 142) r) : stR ((sI σ 142 r.length (bB b)).2.1 142) (b :: r) :=
  ⟨by rw [sI_at, if_pos ⟨rfl, rfl⟩], h.cg (fun j hj => by rw [sI_at, if_neg (by omega)])⟩
theorem m_trueL {σ0 : mS} (h0 : MB σ0 B) {p m c e : Nat} (hp : p < 6) (hm : m < 4096) (hc : c < 60) (he : e ≤ 800) (hbl : σ0.2.1 139 c + σ0.2.1 140 c = (e : Int)) {R : Bool} (hQ : ∀ σ', Agk D155 σ0 σ' → Q (some (vI (bB R))) σ') : ∀ (cs : List Int) (st : List Bool) (i : Nat) (σ : mS), Agk D155 σ0 σ → dp cs st.length = some 1 → st.length ≤ 30 → i + cs.length = e → (∀ j, j < cs.length → σ0.2.1 141 (i + j) = cs.getD j 0) → stR (σ.2.1 142) st → (evl (facF σ0.2.1 p (σ0.2.1 127 p) (pc m)) cs st).headD false = R →
    WP X (d + 2) (0, 0) MX11_isTrue 11 [(0, vP (some 125)), (1, vI (p : Int)), (2, vI (m : Int)), (3, vI (c : Int)), (4, vI (st.length : Int)), (5, vI (i : Int))] [] σ Q := by
  intro cs
  induction cs with
  | nil =>
    intro st i σ hA hd hl hi hcs hst hR
    have hs := hA.1
    simp only [dp, Option.some.injEq] at hd
    simp only [List.length_nil] at hi
    obtain ⟨b, rfl⟩ : ∃ b, st = [b] := by
      match st, hd with
      | [b], _ => exact ⟨b, rfl⟩
    simp only [evl, List.headD_cons] at hR
    subst hR
    have e0 : σ.2.1 142 0 = bB b := hst.1
    refine C_X11_isTrue_11 hs ?_
    rw [show ((c : Int)).toNat = c by omega, hA.n155 (a := 139) (by decide), hA.n155 (a := 140) (by decide), hbl, e0]
    exact ⟨by omega, by omega, by omega, by omega, fun _ => ⟨bB_z, hQ _ hA⟩, fun h => absurd h (by omega)⟩
  | cons cd cs ih =>
    intro st i σ hA hd hl hi hcs hst hR
    have hs := hA.1
    simp only [List.length_cons] at hi
    have hc0 : σ0.2.1 141 i = cd := hcs 0 (by simp only [List.length_cons]; omega)
    have hc' : ∀ j, j < cs.length → σ0.2.1 141 (i + 1 + j) = cs.getD j 0 := fun j hj => by
      have := hcs (j + 1) (by simp only [List.length_cons]; omega)
      rw [List.getD_cons_succ] at this
      rw [← this, show i + 1 + j = i + (j + 1) by omega]
    simp only [dp] at hd
    simp only [evl] at hR
    have step : ∀ (r : List Bool) (x : Bool), stR (σ.2.1 142) r → r.length < 30 → evS (facF σ0.2.1 p (σ0.2.1 127 p) (pc m)) cd st = x :: r → dp cs (r.length + 1) = some 1 → WP X (d + 2) (0, 0) MX11_isTrue 11 [(0, vP (some 125)), (1, vI (p : Int)), (2, vI (m : Int)), (3, vI (c : Int)), (4, vI ((r.length + 1 : Nat) : Int)), (5, vI ((i + 1 : Nat) : Int))] [] (sI σ 142 r.length (bB x)) Q := fun r x hr hl2 hx hd2 => by
      have hs1 : Sh (sI σ 142 r.length (bB x)) := sh_I hs bB_r (hs.k (a := 142) rfl) (Or.inl (by decide))
      exact ih (x :: r) (i + 1) _ (hA.sI hs1 rfl) hd2 (by simp only [List.length_cons]; omega) (by omega) hc' (stR_set hr) (by rw [← hx]; exact hR)
    refine C_X11_isTrue_11 hs ?_
    rw [show ((c : Int)).toNat = c by omega, hA.n155 (a := 139) (by decide), hA.n155 (a := 140) (by decide), hbl, show ((i : Int)).toNat = i by omega, hA.n155 (a := 141) (by decide), hc0, show (i : Int) + 1 = ((i + 1 : Nat) : Int) by omega]
    refine ⟨by omega, by omega, by omega, by omega, fun h => absurd h (by omega), fun _ => ⟨by omega, by omega, fun k3 => ⟨fun k0 => ⟨fun k1 => ?_, fun k1 => ?_⟩, fun k0 => ?_⟩, fun k3 => ?_⟩⟩
    · -- or
      by_cases k2 : cd = 2
      · rw [if_neg k0, if_pos (Or.inr k2)] at hd
        split at hd
        · match st, hl, hd, hst, step with
          | b :: a' :: r, hl, hd, hst, step =>
            obtain ⟨g1, g2, g3⟩ := hst
            have hx : ∀ x, x = (a' || b) → evS (facF σ0.2.1 p (σ0.2.1 127 p) (pc m)) cd (b :: a' :: r) = x :: r := fun x hx => by
              unfold evS
              rw [if_neg k0, if_neg k1, if_pos k2, hx]
              rfl
            have hlr : r.length < 30 := by simp only [List.length_cons] at hl; omega
            have st1 := fun x hh => step r x g3 hlr (hx x hh) (by rw [← hd]; rfl)
            rw [show (((b :: a' :: r).length : Nat) : Int) + (-1) - 1 = (r.length : Int) by simp only [List.length_cons]; omega, show (((b :: a' :: r).length : Nat) : Int) + (-1) = ((r.length + 1 : Nat) : Int) by simp only [List.length_cons]; omega, show ((r.length : Int)).toNat = r.length by omega, show (((r.length + 1 : Nat) : Int)).toNat = r.length + 1 by omega, g2, show σ.2.1 142 (r.length + 1) = bB b from g1]
            refine ⟨by omega, by omega, fun hz => ?_, fun hz => ⟨by omega, by omega, fun hy => ?_, fun hy => ?_⟩⟩
            · exact st1 true (by rw [bB_1 hz]; rfl)
            · exact st1 false (by rw [bB_0 hz, bB_0 hy]; rfl)
            · exact st1 true (by rw [bB_0 hz, bB_1 hy]; rfl)
          | [b], _, _, _, _ => simp only [List.length_cons, List.length_nil] at *; omega
          | [], _, _, _, _ => simp only [List.length_nil] at *; omega
        · cases hd
      · rw [if_neg k0, if_neg (by omega)] at hd
        split at hd
        · omega
        · cases hd
    · -- and
      rw [if_neg k0, if_pos (Or.inl k1)] at hd
      split at hd
      · match st, hl, hd, hst, step with
        | b :: a' :: r, hl, hd, hst, step =>
          obtain ⟨g1, g2, g3⟩ := hst
          have hx : ∀ x, x = (a' && b) → evS (facF σ0.2.1 p (σ0.2.1 127 p) (pc m)) cd (b :: a' :: r) = x :: r := fun x hx => by
            unfold evS
            rw [if_neg k0, if_pos k1, hx]
            rfl
          have hlr : r.length < 30 := by simp only [List.length_cons] at hl; omega
          have st1 := fun x hh => step r x g3 hlr (hx x hh) (by rw [← hd]; rfl)
          rw [show (((b :: a' :: r).length : Nat) : Int) + (-1) - 1 = (r.length : Int) by simp only [List.length_cons]; omega, show (((b :: a' :: r).length : Nat) : Int) + (-1) = ((r.length + 1 : Nat) : Int) by simp only [List.length_cons]; omega, show ((r.length : Int)).toNat = r.length by omega, show (((r.length + 1 : Nat) : Int)).toNat = r.length + 1 by omega, g2, show σ.2.1 142 (r.length + 1) = bB b from g1]
          refine ⟨by omega, by omega, fun hz => ?_, fun hz => ⟨by omega, by omega, fun hy => ?_, fun hy => ?_⟩⟩
          · exact st1 false (by rw [bB_0 hz]; rfl)
          · exact st1 false (by rw [bB_0 hy]; cases a' <;> rfl)
          · exact st1 true (by rw [bB_1 hz, bB_1 hy]; rfl)
        | [b], _, _, _, _ => simp only [List.length_cons, List.length_nil] at *; omega
        | [], _, _, _, _ => simp only [List.length_nil] at *; omega
      · cases hd
    · -- not
      rw [if_pos k0] at hd
      split at hd
      · match st, hl, hd, hst, step with
        | b :: r, hl, hd, hst, step =>
          obtain ⟨g1, g3⟩ := hst
          have hx : ∀ x, x = (!b) → evS (facF σ0.2.1 p (σ0.2.1 127 p) (pc m)) cd (b :: r) = x :: r := fun x hx => by
            unfold evS
            rw [if_pos k0, hx]
            rfl
          have hlr : r.length < 30 := by simp only [List.length_cons] at hl; omega
          have st1 := fun x hh => step r x g3 hlr (hx x hh) (by rw [← hd]; rfl)
          rw [show (((b :: r).length : Nat) : Int) - 1 = (r.length : Int) by simp only [List.length_cons]; omega, show ((r.length : Int)).toNat = r.length by omega, g1]
          refine ⟨by omega, by omega, fun hz => ?_, fun hz => ?_⟩
          · exact st1 false (by rw [bB_1 hz]; rfl)
          · exact st1 true (by rw [bB_0 hz]; rfl)
        | [], _, _, _, _ => simp only [List.length_nil] at *; omega
      · cases hd
    · -- a test
      rw [if_neg (by omega), if_neg (by omega)] at hd
      split at hd
      · next hh =>
        have st1 := fun (x : Bool) (hx : x = evT (facF σ0.2.1 p (σ0.2.1 127 p) (pc m)) (cd - 3)) => step st x hst hh.2.2 (by unfold evS; rw [if_neg (show ¬ cd = 0 by omega), if_neg (show ¬ cd = 1 by omega), if_neg (show ¬ cd = 2 by omega), hx]) hd
        rw [Int.tdiv_eq_ediv_of_nonneg (a := cd - 3) (b := 300) (by omega), Int.tdiv_eq_ediv_of_nonneg (a := cd - 3) (b := 100) (by omega), Int.tmod_eq_emod_of_nonneg (a := (cd - 3) / 100) (b := 3) (by omega), Int.tmod_eq_emod_of_nonneg (a := cd - 3) (b := 100) (by omega)]
        obtain ⟨l, hl2⟩ : ∃ l : Nat, (cd - 3) / 300 = (l : Int) := ⟨((cd - 3) / 300).toNat, by omega⟩
        have e3 : ((cd - 3) / 100 / 3).toNat = l := by omega
        have eF : facF σ.2.1 p (σ.2.1 127 p) (pc m) = facF σ0.2.1 p (σ0.2.1 127 p) (pc m) := by
          funext k
          unfold facF
          rw [hA.n155 (a := 126) (by decide), hA.n155 (a := 127) (by decide), hA.n155 (a := 129) (by decide), hA.n155 (a := 125) (by decide)]
        unfold evT at st1
        rw [e3] at st1
        rw [hl2]
        have hfr : -2147483648 ≤ facF σ0.2.1 p (σ0.2.1 127 p) (pc m) l ∧ facF σ0.2.1 p (σ0.2.1 127 p) (pc m) l ≤ 2147483647 := by
          have g := h0.2.1.g hp
          have g2 := h0.2.1.2.2.1
          have g3 := pc_le m
          unfold facF
          repeat' split
          all_goals omega
        refine ⟨by omega, m_letter (h0.f155 hA) hp hm (by omega) ?_⟩
        rw [eF]
        refine ⟨_, rfl, hs, by omega, fun j0 => ⟨fun j1 => ⟨hfr, fun hz => ⟨by omega, by omega, ?_⟩, fun hz => ⟨by omega, by omega, ?_⟩⟩, fun j1 => ⟨hfr, fun hz => ⟨by omega, by omega, ?_⟩, fun hz => ⟨by omega, by omega, ?_⟩⟩⟩, fun j0 => ⟨hfr, fun hz => ⟨by omega, by omega, ?_⟩, fun hz => ⟨by omega, by omega, ?_⟩⟩⟩
        all_goals rw [show ((st.length : Int)).toNat = st.length by omega, show (st.length : Int) + 1 = ((st.length + 1 : Nat) : Int) by omega]
        · exact st1 false (by rw [if_neg j0, if_neg j1, decide_eq_false (by omega)])
        · exact st1 true (by rw [if_neg j0, if_neg j1, decide_eq_true (by omega)])
        · exact st1 false (by rw [if_neg j0, if_pos j1, decide_eq_false (by omega)])
        · exact st1 true (by rw [if_neg j0, if_pos j1, decide_eq_true (by omega)])
        · exact st1 false (by rw [if_pos j0, decide_eq_false (by omega)])
        · exact st1 true (by rw [if_pos j0, decide_eq_true (by omega)])
      · cases hd
end WITM
