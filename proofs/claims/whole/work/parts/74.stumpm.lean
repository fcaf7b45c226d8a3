/-! what stumps a guard, what it must learn: the reference -/
section STUMPM
variable {X : mX} {d : Nat} {σ : mS} {Q : Option mV → mS → Prop} {y : Nat} {Y Z : mY} {B : List mCl}
theorem D155_tr {σ1 σ2 : mS} (h1 : Agk D155 σ σ1) (h2 : Agk D155 σ1 σ2) : Agk D155 σ σ2 := h1.tr h2 (fun _ _ q => q) (fun _ _ q => q)
theorem D155_S : ∀ a k, D155 a k → DS a k := fun a k h => by
  unfold D155 at h
  unfold DS
  omega
theorem ansY_155 {σ' : mS} (hA : Agk D155 σ σ') (p m : Nat) : ansY B σ'.2.1 p m = ansY B σ.2.1 p m :=
  ansY_cg (hA.n155 (by decide)) (hA.n155 (by decide)) (hA.n155 (by decide)) (fun k => hA.n155 (by decide)) (hA.n155 (by decide)) (hA.n155 (by decide))
theorem bst_yes {g : Nat → Bool} {m s : Nat} {r : Option Nat} (h1 : btr r s = true) (h2 : g s = true) : bst g (m + 1) s r = bst g m (s + 1) (some s) := by
  show bst g m (s + 1) (if (btr r s && g s) = true then some s else r) = _
  rw [h1, h2]
  rfl
theorem bst_no1 {g : Nat → Bool} {m s : Nat} {r : Option Nat} (h1 : btr r s = false) : bst g (m + 1) s r = bst g m (s + 1) r := by
  show bst g m (s + 1) (if (btr r s && g s) = true then some s else r) = _
  rw [h1]
  rfl
theorem bst_no2 {g : Nat → Bool} {m s : Nat} {r : Option Nat} (h2 : g s = false) : bst g (m + 1) s r = bst g m (s + 1) r := by
  show bst g m (s + 1) (if (btr r s && g s) = true then some s else r) = _
  rw [h2, Bool.and_false]
  rfl
theorem btr_y {s b : Nat} (h : pc s < pc b) : btr (some b) s = true := decide_eq_true h
theorem btr_n {s b : Nat} (h : ¬ pc s < pc b) : btr (some b) s = false := decide_eq_false h
theorem optI_n {r : Option Nat} (h : optI r = -5) : r = none := by
  cases r with
  | none => rfl
  | some b =>
    have h : (b : Int) = -5 := h
    omega
theorem optI_s {r : Option Nat} (h : ¬ optI r = -5) : ∃ b, r = some b := by
  cases r with
  | none => exact absurd rfl h
  | some b => exact ⟨b, rfl⟩
theorem m_stumpsL {σ0 : mS} (h0 : MB σ0 B) {p : Nat} (hp : p < 6) {g : Nat → Bool} (hg : ∀ s, g s = !(ansY B σ0.2.1 p s)) {R : Int} (hQ : ∀ σ', Agk D155 σ0 σ' → Q (some (vI R)) σ') : ∀ (m s : Nat) (r : Option Nat) (σ : mS), s + m = 4096 → (∀ b, r = some b → b < 4096) → Agk D155 σ0 σ → optI (bst g m s r) = R → WP X (d + 6) (0, 0) MX11_stumps 5 [(0, vP (some 125)), (1, vI (p : Int)), (2, vI (optI r)), (3, vI (s : Int))] [] σ Q := by
  intro m
  induction m with
  | zero =>
    intro s r σ hm hb hA hR
    simp only [bst] at hR
    subst hR
    exact C_X11_stumps_5 hA.1 ⟨by omega, fun _ => hQ σ hA, fun hz => absurd hz (by omega)⟩
  | succ m ih =>
    intro s r σ hm hb hA hR
    have hs4 : s < 4096 := by omega
    have hr := optI_r hb
    have hps := pc_le s
    have gt : ansY B σ0.2.1 p s = false → g s = true := fun q => by rw [hg, q]; rfl
    have gf : ansY B σ0.2.1 p s = true → g s = false := fun q => by rw [hg, q]; rfl
    refine C_X11_stumps_5 hA.1 ⟨by omega, fun hz => absurd hz (by omega), fun _ => ⟨by omega, fun hz => ?_, fun hz => ?_⟩⟩
    all_goals rw [show (s : Int) + 1 = ((s + 1 : Nat) : Int) by omega]
    · have hr0 := optI_n hz
      subst hr0
      refine m_ans (h0.f155 hA) hp hs4 (fun σ1 hA1 => ⟨_, rfl, hA1.1, fun hz2 => ?_, fun hz2 => ?_⟩)
      all_goals rw [ansY_155 hA] at hz2
      · rw [bst_yes rfl (gt hz2)] at hR
        exact ih (s + 1) (some s) σ1 (by omega) (fun b hb2 => by cases hb2; exact hs4) (D155_tr hA hA1) hR
      · rw [bst_no2 (gf hz2)] at hR
        exact ih (s + 1) none σ1 (by omega) hb (D155_tr hA hA1) hR
    · obtain ⟨b, rfl⟩ := optI_s hz
      have hb4 := hb b rfl
      have hpb := pc_le b
      refine c_bitCount hs4 ⟨_, rfl, hA.1, c_bitCount hb4 ⟨_, rfl, hA.1, by omega, by omega, fun hl => ?_, fun hl => ?_⟩⟩
      · rw [bst_no1 (btr_n (by omega))] at hR
        exact ih (s + 1) (some b) σ (by omega) hb hA hR
      · refine m_ans (h0.f155 hA) hp hs4 (fun σ1 hA1 => ⟨_, rfl, hA1.1, fun hz2 => ?_, fun hz2 => ?_⟩)
        all_goals rw [ansY_155 hA] at hz2
        · rw [bst_yes (btr_y (by omega)) (gt hz2)] at hR
          exact ih (s + 1) (some s) σ1 (by omega) (fun b hb2 => by cases hb2; exact hs4) (D155_tr hA hA1) hR
        · rw [bst_no2 (gf hz2)] at hR
          exact ih (s + 1) (some b) σ1 (by omega) hb (D155_tr hA hA1) hR
theorem m_stumps (h : MB σ B) {p : Nat} (hp : p < 6) (hQ : ∀ σ', Agk D155 σ σ' → Q (some (vI (optI (bst (stumG B σ.2.1 p) 4095 1 none)))) σ') : CALL X (d + 6) (0, 0) MX11_stumps [vP (some 125), vI (p : Int)] σ Q :=
  C_X11_stumps h.1 (m_stumpsL h hp (g := stumG B σ.2.1 p) (fun _ => rfl) hQ 4095 1 none σ rfl (fun b hb => by cases hb) (Agk.rf h.1) rfl)
/-- the reference tries a set as known, and takes it back -/
theorem m_ansK {σ0 : mS} (h0 : MB σ0 B) (hA : Agk D155 σ0 σ) {p m kn s : Nat} (hp : p < 6) (hm : m < 4096) (hk : kn < 4096) (hs4 : s < 4096) (hkn : σ0.2.1 128 p = (kn : Int)) (hQ : ∀ σ1, Sh σ1 → Agk D155 σ0 (sI σ1 128 p (kn : Int)) → Q (some (vI (bB (ansS B σ0.2.1 p (σ0.2.1 127 p) (kn ||| s) m)))) σ1) : CALL X (d + 5) (0, 0) MX11_answers [vP (some 125), vI (p : Int), vI (m : Int)] (sI σ 128 p (bor (kn : Int) (s : Int))) Q := by
  have h1 := h0.f155 hA
  have hor := or_lt hk hs4
  rw [bor_n (by omega) (by omega)]
  have hs2 : Sh (sI σ 128 p ((kn ||| s : Nat) : Int)) := sh_I hA.1 (by omega) (hA.1.k (a := 128) rfl) (Or.inl (by decide))
  have hA2 : Agk (fun a k => a = 128 ∧ k = p) σ (sI σ 128 p ((kn ||| s : Nat) : Int)) := (Agk.rf hA.1).sI hs2 ⟨rfl, rfl⟩
  have h2 : MB (sI σ 128 p ((kn ||| s : Nat) : Int)) B := by
    refine ⟨hs2, ?_, ?_⟩
    · rw [sI_at, if_neg (by omega)]
      exact h1.2.1.mUp (a0 := 128) (k0 := p) (z := ((kn ||| s : Nat) : Int)) (Or.inl ⟨rfl, by omega, by omega⟩)
    · rw [sI_at, if_neg (by omega)]
      exact h1.2.2.fr hA2 (fun a k q => by omega)
  refine m_ans h2 hp hm (fun σ3 hA3 => ?_)
  have e : ansY B (sI σ 128 p ((kn ||| s : Nat) : Int)).2.1 p m = ansS B σ0.2.1 p (σ0.2.1 127 p) (kn ||| s) m := by
    unfold ansY
    have n : ∀ a k, a ≠ 128 → a ≠ 142 → (sI σ 128 p ((kn ||| s : Nat) : Int)).2.1 a k = σ0.2.1 a k := fun a k q1 q2 => by
      rw [sI_at, if_neg (by omega)]
      exact hA.n155 q2
    rw [show (sI σ 128 p ((kn ||| s : Nat) : Int)).2.1 128 p = ((kn ||| s : Nat) : Int) by rw [sI_at, if_pos ⟨rfl, rfl⟩], n 127 p (by decide) (by decide), show (((kn ||| s : Nat) : Int)).toNat = kn ||| s by omega]
    unfold ansS witS
    rw [witN_cg (n 126 p (by decide) (by decide)) (n 129 p (by decide) (by decide)) (n 125 11 (by decide) (by decide)) (n 130 _ (by decide) (by decide))]
  rw [e]
  refine hQ σ3 hA3.1 ?_
  have hs4' : Sh (sI σ3 128 p (kn : Int)) := sh_I hA3.1 (by omega) (hA3.1.k (a := 128) rfl) (Or.inl (by decide))
  refine ⟨hs4', ?_, fun a k hn => ?_⟩
  · show σ3.2.2.1 = _
    rw [hA3.2.1]
    exact hA.2.1
  · rw [sI_at]
    by_cases hz : a = 128 ∧ k = p
    · rw [if_pos hz, hz.1, hz.2, hkn]
    · rw [if_neg hz, hA3.2.2 a k hn, sI_at, if_neg hz]
      exact hA.2.2 a k hn
theorem m_studyL {σ0 : mS} (h0 : MB σ0 B) {p m0 kn : Nat} (hp : p < 6) (hm0 : m0 < 4096) (hk : kn < 4096) (hkn : σ0.2.1 128 p = (kn : Int)) {g : Nat → Bool} (hg : ∀ s, g s = (decide (s &&& kn = 0) && ansS B σ0.2.1 p (σ0.2.1 127 p) (kn ||| s) m0)) {R : Int} (hQ : ∀ σ', Agk D155 σ0 σ' → Q (some (vI R)) σ') : ∀ (m s : Nat) (r : Option Nat) (σ : mS), s + m = 4096 → (∀ b, r = some b → b < 4096) → Agk D155 σ0 σ → optI (bst g m s r) = R → WP X (d + 6) (0, 0) MX11_study 14 [(0, vP (some 125)), (1, vI (p : Int)), (2, vI (m0 : Int)), (3, vI (kn : Int)), (4, vI (optI r)), (5, vI (s : Int))] [] σ Q := by
  intro m
  induction m with
  | zero =>
    intro s r σ hm hb hA hR
    simp only [bst] at hR
    subst hR
    exact C_X11_study_14 hA.1 ⟨by omega, fun _ => hQ σ hA, fun hz => absurd hz (by omega)⟩
  | succ m ih =>
    intro s r σ hm hb hA hR
    have hs4 : s < 4096 := by omega
    have hr := optI_r hb
    have hps := pc_le s
    refine C_X11_study_14 hA.1 ⟨by omega, fun hz => absurd hz (by omega), fun _ => ?_⟩
    rw [band_n (by omega), show (s : Int) + 1 = ((s + 1 : Nat) : Int) by omega, show ((p : Int)).toNat = p by omega]
    refine ⟨fun hz => ?_, fun hz => ⟨by omega, fun hz2 => ⟨by omega, by omega, ?_⟩, fun hz2 => ?_⟩⟩
    · have e : g s = false := by rw [hg, decide_eq_false (show ¬ s &&& kn = 0 by omega)]; rfl
      rw [bst_no2 e] at hR
      exact ih (s + 1) r σ (by omega) hb hA hR
    · have hr0 := optI_n hz2
      subst hr0
      have e : g s = ansS B σ0.2.1 p (σ0.2.1 127 p) (kn ||| s) m0 := by rw [hg, decide_eq_true (show s &&& kn = 0 by omega)]; rfl
      refine m_ansK h0 hA hp hm0 hk hs4 hkn (fun σ1 hs1 hA1 => ⟨_, rfl, hs1, fun hz3 => ⟨by omega, ?_⟩, fun hz3 => ⟨by omega, ?_⟩⟩)
      · rw [bst_no2 (e.trans hz3)] at hR
        exact ih (s + 1) none _ (by omega) hb hA1 hR
      · rw [bst_yes rfl (e.trans hz3)] at hR
        exact ih (s + 1) (some s) _ (by omega) (fun b hb2 => by cases hb2; exact hs4) hA1 hR
    · obtain ⟨b, rfl⟩ := optI_s hz2
      have hb4 := hb b rfl
      have hpb := pc_le b
      have e : g s = ansS B σ0.2.1 p (σ0.2.1 127 p) (kn ||| s) m0 := by rw [hg, decide_eq_true (show s &&& kn = 0 by omega)]; rfl
      refine c_bitCount hs4 ⟨_, rfl, hA.1, c_bitCount hb4 ⟨_, rfl, hA.1, by omega, by omega, fun hl => ⟨by omega, by omega, ?_⟩, fun hl => ?_⟩⟩
      · refine m_ansK h0 hA hp hm0 hk hs4 hkn (fun σ1 hs1 hA1 => ⟨_, rfl, hs1, fun hz3 => ⟨by omega, ?_⟩, fun hz3 => ⟨by omega, ?_⟩⟩)
        · rw [bst_no2 (e.trans hz3)] at hR
          exact ih (s + 1) (some b) _ (by omega) hb hA1 hR
        · rw [bst_yes (btr_y (by omega)) (e.trans hz3)] at hR
          exact ih (s + 1) (some s) _ (by omega) (fun b hb2 => by cases hb2; exact hs4) hA1 hR
      · rw [bst_no1 (btr_n (by omega))] at hR
        exact ih (s + 1) (some b) σ (by omega) hb hA hR
/-- what must be learnt, as the given one's answer has it -/
theorem m_study (h : MB σ B) {p m0 : Nat} (hp : p < 6) (hm0 : m0 < 4096) (hQ : ∀ σ', Agk D155 σ σ' → Q (some (vI (stC (stuOk B σ.2.1 p m0) (nd m0 (σ.2.1 128 p).toNat) 13 0))) σ') : CALL X (d + 6) (0, 0) MX11_study [vP (some 125), vI (p : Int), vI (m0 : Int)] σ Q := by
  have wg := h.2.1.g hp
  obtain ⟨kn, hkn⟩ : ∃ n : Nat, σ.2.1 128 p = (n : Int) := ⟨(σ.2.1 128 p).toNat, by omega⟩
  refine C_X11_study h.1 ⟨by omega, by omega, ?_⟩
  rw [show ((p : Int)).toNat = p by omega, hkn]
  rw [hkn, show ((kn : Int)).toNat = kn by omega] at hQ
  refine m_studyL h hp hm0 (by omega) hkn (g := fun s => decide (s &&& kn = 0) && ansS B σ.2.1 p (σ.2.1 127 p) (kn ||| s) m0) (fun _ => rfl) hQ 4096 0 none σ rfl (fun b hb => by cases hb) (Agk.rf h.1) ?_
  have hB := bst_spec (fun s => decide (s &&& kn = 0) && ansS B σ.2.1 p (σ.2.1 127 p) (kn ||| s) m0) 4096 0 none (Or.inl ⟨rfl, fun s hs => absurd hs (by omega)⟩)
  rw [Nat.zero_add] at hB
  have := st_eq (F := fun k => decide (0 < witN B σ.2.1 p (σ.2.1 127 p) (pc m0) k)) (kn := kn) hm0 hB
  rw [← this]
  have e : (fun s => (fun k => decide (0 < witN B σ.2.1 p (σ.2.1 127 p) (pc m0) k)) (pc (m0 &&& (kn ||| s)))) = stuOk B σ.2.1 p m0 := by
    funext s
    unfold stuOk ansS witS
    rw [hkn, show ((kn : Int)).toNat = kn by omega]
  rw [e]
end STUMPM
