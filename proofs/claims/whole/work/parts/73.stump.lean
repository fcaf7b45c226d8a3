/-! what stumps a guard, what it must learn: the given one -/
section STUMP
variable {X : mX} {d : Nat} {σ : mS} {Q : Option mV → mS → Prop} {y : Nat} {Y Z : mY} {B : List mCl}
theorem bitsF_bit (f : Nat → Bool) (k : Nat) : ∀ m q, (bitsF f m q).testBit k = (decide (q ≤ k ∧ k < q + m) && f k)
  | 0, q => by
    simp only [bitsF, Nat.zero_testBit]
    rw [decide_eq_false (by omega)]
    rfl
  | m + 1, q => by
    simp only [bitsF]
    rw [Nat.testBit_or, bitsF_bit f k m (q + 1)]
    by_cases hz : q = k
    · subst hz
      rw [decide_eq_false (show ¬ (q + 1 ≤ q ∧ q < q + 1 + m) by omega), decide_eq_true (show q ≤ q ∧ q < q + (m + 1) by omega)]
      cases f q
      · simp
      · simp [Nat.testBit_two_pow]
    · have e : (if f q = true then 2 ^ q else 0).testBit k = false := by
        split
        · rw [Nat.testBit_two_pow, decide_eq_false hz]
        · exact Nat.zero_testBit k
      rw [e, Bool.false_or]
      congr 1
      exact decide_eq_decide.mpr (by omega)
theorem bitsF_13 (f : Nat → Bool) : ∀ m q, q + m ≤ 13 → bitsF f m q < 8192
  | 0, _, _ => by simp only [bitsF]; decide
  | m + 1, q, h => by
    simp only [bitsF]
    have ih := bitsF_13 f m (q + 1) (by omega)
    have h2 : (if f q = true then 2 ^ q else 0) < 8192 := by
      split
      · exact Nat.lt_of_lt_of_le (Nat.pow_lt_pow_right (by decide) (show q < 13 by omega)) (by decide)
      · decide
    exact Nat.or_lt_two_pow (n := 13) h2 ih
theorem sh31 : ∀ k : Nat, k ≤ 12 → ((Int32.ofInt (k : Int) &&& 31).toBitVec.smod 32).toNat = k := by decide
theorem bit_1 {n k : Nat} (hn : n < 8192) (hk : k ≤ 12) : band (bshr n k) 1 = if n.testBit k then 1 else 0 := by
  have e := pk_shrN (n := n) (by omega) (Int32.ofInt (k : Int) &&& 31) k (sh31 k hk)
  have e' : (Int32.ofInt (n : Int) >>> (Int32.ofInt (k : Int) &&& 31)) = Int32.ofNat (n / 2 ^ k) := e
  have hd : n / 2 ^ k < 8192 := Nat.lt_of_le_of_lt (Nat.div_le_self _ _) hn
  have e2 : bshr n k = ((n / 2 ^ k : Nat) : Int) := by
    unfold bshr
    rw [e', i32_toInt (by omega)]
  rw [e2]
  have e3 := band_n (a := n / 2 ^ k) (b := 1) (by omega)
  rw [show ((1 : Nat) : Int) = 1 from rfl, Nat.and_one_is_mod] at e3
  rw [e3, Nat.testBit_eq_decide_div_mod_eq]
  by_cases hz : n / 2 ^ k % 2 = 1
  · rw [hz, decide_eq_true rfl]; rfl
  · rw [decide_eq_false hz, show n / 2 ^ k % 2 = 0 by omega]; rfl
def fitF (B : List mCl) (Y : mY) (p : Nat) (v : Int) (n : Nat) (c : Bool) : Nat → Bool := fun k => decide (0 < witN B Y p v n k) == c
theorem c_fitsL (h : YB σ y Y B) {p : Nat} (hp : (p : Int) < Y 125 0) {v : Int} (hv : 0 ≤ v ∧ v ≤ 9) {n : Nat} (hn : n ≤ 12) {c : Bool} {R : Nat} (hQ : Q (some (vI (R : Int))) σ) : ∀ (m k s : Nat), k + m = n + 1 → s < 8192 → s ||| bitsF (fitF B Y p v n c) m k = R → WP X (d + 2) (0, 0) MX2_fits 39 [(0, vP (some 82)), (1, vP (some y)), (2, vI (p : Int)), (3, vI v), (4, vI (n : Int)), (5, vI (bB c)), (6, vI (bonS (facF Y p v n) B)), (7, vI (s : Int)), (8, vI (k : Int))] [] σ Q := by
  have hc := h.c
  intro m
  induction m with
  | zero =>
    intro k s hk hs hR
    simp only [bitsF, Nat.or_zero] at hR
    subst hR
    exact C_X2_fits_39 h.1 h.2.1 ⟨by omega, by omega, fun _ => hQ, fun hz => absurd hz (by omega)⟩
  | succ m ih =>
    intro k s hk hs hR
    have hr := witN_r (p := p) (v := v) (n := n) (k := k) h.2.2.2.1 h.2.2.2.2.1 (by omega) hv hn (by omega)
    have h2 : 2 ^ k < 8192 := Nat.lt_of_lt_of_le (Nat.pow_lt_pow_right (by decide) (show k < 13 by omega)) (by decide)
    simp only [bitsF] at hR
    have no : fitF B Y p v n c k = false → WP X (d + 2) (0, 0) MX2_fits 39 [(0, vP (some 82)), (1, vP (some y)), (2, vI (p : Int)), (3, vI v), (4, vI (n : Int)), (5, vI (bB c)), (6, vI (bonS (facF Y p v n) B)), (7, vI (bor (s : Int) 0)), (8, vI ((k : Int) + 1))] [] σ Q := fun hf => by
      rw [hf] at hR
      simp only [Bool.false_eq_true, if_false, Nat.zero_or] at hR
      rw [show (k : Int) + 1 = ((k + 1 : Nat) : Int) by omega, show (0 : Int) = ((0 : Nat) : Int) from rfl, bor_n (by omega) (by omega), Nat.or_zero]
      exact ih (k + 1) s (by omega) hs hR
    have yes : fitF B Y p v n c k = true → WP X (d + 2) (0, 0) MX2_fits 39 [(0, vP (some 82)), (1, vP (some y)), (2, vI (p : Int)), (3, vI v), (4, vI (n : Int)), (5, vI (bB c)), (6, vI (bonS (facF Y p v n) B)), (7, vI (bor (s : Int) (bshl 1 (k : Int)))), (8, vI ((k : Int) + 1))] [] σ Q := fun hf => by
      rw [hf] at hR
      simp only [if_true] at hR
      rw [show (k : Int) + 1 = ((k + 1 : Nat) : Int) by omega, bshl_1 k (by omega), bor_n (by omega) (by omega)]
      exact ih (k + 1) _ (by omega) (Nat.or_lt_two_pow (n := 13) hs h2) (by rw [Nat.or_assoc]; exact hR)
    refine C_X2_fits_39 h.1 h.2.1 ⟨by omega, by omega, fun hz => absurd hz (by omega), fun _ => c_witK h hp hv hn (by omega) ⟨_, rfl, h.1, by omega, fun hz => ⟨bB_r, fun hz2 => no ?_, fun hz2 => yes ?_⟩, fun hz => ⟨bB_r, fun hz2 => no ?_, fun hz2 => yes ?_⟩⟩⟩
    all_goals unfold fitF
    · rw [decide_eq_false (by omega)]
      cases c
      · exact absurd rfl hz2
      · rfl
    · rw [decide_eq_false (by omega)]
      cases c
      · rfl
      · exact absurd hz2 (by decide)
    · rw [decide_eq_true (by omega)]
      cases c
      · rfl
      · exact absurd rfl hz2
    · rw [decide_eq_true (by omega)]
      cases c
      · exact absurd hz2 (by decide)
      · rfl
theorem c_fits (h : YB σ y Y B) {p : Nat} (hp : (p : Int) < Y 125 0) {v : Int} (hv : 0 ≤ v ∧ v ≤ 9) {n : Nat} (hn : n ≤ 12) {c : Bool} (hQ : ∀ σ', Agk D85 σ σ' → Q (some (vI (bitsF (fitF B Y p v n c) (n + 1) 0 : Int))) σ') : CALL X (d + 4) (0, 0) MX2_fits [vP (some 82), vP (some y), vI (p : Int), vI v, vI (n : Int), vI (bB c)] σ Q := by
  have hc := h.c
  rcases h.held with ⟨e, e8⟩ | ⟨b, hb, hr, e8⟩
  · refine C_X2_fits h.1 h.2.1 ⟨fun _ => ?_, fun a ha => by rw [e8] at ha; cases ha⟩
    have k := c_fitsL (X := X) (d := d + 2) h hp hv hn (hQ σ (Agk.rf h.1)) (n + 1) 0 0 (by omega) (by decide) (Nat.zero_or _)
    rw [show bonS (facF Y p v n) B = 0 by rw [e]; rfl] at k
    exact k
  · refine C_X2_fits h.1 h.2.1 ⟨fun h8 => (by rw [e8] at h8; cases h8), fun a ha => ?_⟩
    rw [e8] at ha
    obtain rfl := Option.some.inj ha
    refine ⟨⟨b, hb, rfl⟩, c_guardY h hp ⟨_, rfl, h.1, _, e8, ⟨b, hb, rfl⟩, _, rfl, h.isG (by omega), ?_⟩⟩
    rw [hc.1.2.2.1]
    exact c_bonus (d := d + 1) h hb hr hp hv hn (fun σ1 hA => ⟨_, rfl, hA.1, c_fitsL (d := d + 2) (h.f85 hA) hp hv hn (hQ σ1 hA) (n + 1) 0 0 (by omega) (by decide) (Nat.zero_or _)⟩)
/-- what the finder can touch -/
def DFn : Nat → Nat → Prop := fun a _ => a = 82 ∨ (87 ≤ a ∧ a ≤ 102 ∧ a % 3 = 0) ∨ (103 ≤ a ∧ a ≤ 107)
theorem DFn_ok : okD DFn := fun a k h => by unfold DFn at h; omega
theorem DFn_y (hy : isY y) : ∀ a k, DFn a k → ¬ FYx y a k := fun a k h => by
  unfold DFn at h
  unfold FYx
  rcases hy with rfl | rfl | rfl <;> omega
theorem DFn_S : ∀ a k, DFn a k → DS a k := fun a k h => by
  unfold DFn at h
  unfold DS
  omega
theorem D85_Fn : ∀ a k, D85 a k → DFn a k := fun _ _ h => Or.inr (Or.inl h)
theorem YB.fF {σ' : mS} (h : YB σ y Y B) (ha : Agk DFn σ σ') : YB σ' y Y B := h.fr ha DFn_ok (DFn_y h.2.1)
theorem DFn_tr {σ1 σ2 : mS} (h1 : Agk DFn σ σ1) (h2 : Agk DFn σ1 σ2) : Agk DFn σ σ2 := h1.tr h2 (fun _ _ q => q) (fun _ _ q => q)
def stuN (B : List mCl) (Y : mY) (p : Nat) (v : Int) (n : Nat) : Nat := bitsF (fitF B Y p v n false) (n + 1) 0
theorem c_stumpedL {σ0 : mS} {p : Nat} (hp : (p : Int) < Y 125 0) {v : Int} (hv : 0 ≤ v ∧ v ≤ 9) (hQ : ∀ σ', Agk DFn σ0 σ' → (∀ n : Nat, 1 ≤ n → n < 13 → σ'.2.1 105 n = (stuN B Y p v n : Int)) → Q none σ') : ∀ (m n : Nat) (σ : mS), 1 ≤ n → n + m = 13 → Agk DFn σ0 σ → YB σ y Y B → (∀ j : Nat, 1 ≤ j → j < n → σ.2.1 105 j = (stuN B Y p v j : Int)) → WP X (d + 5) (0, 0) MX2_findStumped 3 [(0, vP (some 82)), (1, vP (some y)), (2, vI (p : Int)), (3, vI v), (4, vI (n : Int))] [] σ Q := by
  intro m
  induction m with
  | zero =>
    intro n σ h1 hn hA h hj
    exact C_X2_findStumped_3 h.1 h.2.1 ⟨by omega, fun _ => hQ σ hA (fun k k1 k2 => hj k k1 (by omega)), fun hz => absurd hz (by omega)⟩
  | succ m ih =>
    intro n σ h1 hn hA h hj
    refine C_X2_findStumped_3 h.1 h.2.1 ⟨by omega, fun hz => absurd hz (by omega), fun _ => c_fits (c := false) h hp hv (by omega) (fun σ1 hA1 => ?_)⟩
    have hlt := bitsF_13 (fitF B Y p v n false) (n + 1) 0 (by omega)
    rw [show ((n : Int)).toNat = n by omega, show (n : Int) + 1 = ((n + 1 : Nat) : Int) by omega]
    have hs2 : Sh (sI σ1 105 n (bitsF (fitF B Y p v n false) (n + 1) 0 : Int)) := sh_I hA1.1 (by omega) (hA1.1.k (a := 105) rfl) (Or.inl (by decide))
    have hA2 : Agk DFn σ (sI σ1 105 n (bitsF (fitF B Y p v n false) (n + 1) 0 : Int)) := (hA1.mono D85_Fn).sI hs2 (Or.inr (Or.inr ⟨by decide, by decide⟩))
    refine ⟨_, rfl, hA1.1, by omega, by omega, by omega, ih (n + 1) _ (by omega) (by omega) (DFn_tr hA hA2) (h.fF hA2) (fun j j1 j2 => ?_)⟩
    rw [sI_at]
    by_cases hz : j = n
    · rw [if_pos ⟨rfl, hz⟩, hz]
      rfl
    · rw [if_neg (by omega), hA1.2.2 105 j (by unfold D85; omega)]
      exact hj j j1 (by omega)
def few (r : Option Nat) : Int := match r with
  | none => 13
  | some b => (pc b : Int)
theorem optI_r {r : Option Nat} (h : ∀ b, r = some b → b < 4096) : -5 ≤ optI r ∧ optI r ≤ 4095 ∧ -5 ≤ few r ∧ few r ≤ 13 := by
  cases r with
  | none => exact ⟨by decide, by decide, by decide, by decide⟩
  | some b =>
    have := h b rfl
    have := pc_le b
    simp only [optI, few]
    omega
theorem bst_lt {g : Nat → Bool} : ∀ m s r, s + m ≤ 4096 → (∀ b, r = some b → b < 4096) → ∀ b, bst g m s r = some b → b < 4096
  | 0, _, _, _, h => h
  | m + 1, s, r, hm, h => by
    simp only [bst]
    refine bst_lt m (s + 1) _ (by omega) (fun b hb => ?_)
    split at hb
    · cases hb
      omega
    · exact h b hb
theorem btr_few {r : Option Nat} {s : Nat} : btr r s = decide ((pc s : Int) < few r) := by
  have := pc_le s
  cases r with
  | none => exact (decide_eq_true (show (pc s : Int) < 13 by omega)).symm
  | some b => exact decide_eq_decide.mpr (show pc s < pc b ↔ (pc s : Int) < (pc b : Int) by omega)
theorem c_stumpsL (hs : Sh σ) {a kn : Nat} (ha : isG a) (hk : σ.2.1 a 2 = (kn : Int)) (hkn : kn < 4096) {f : Nat → Nat → Bool} (hf : ∀ n k : Nat, 1 ≤ n → n ≤ 12 → k ≤ n → band (bshr (σ.2.1 105 n) k) 1 = if f n k then 1 else 0) {R : Int} (hQ : Q (some (vI R)) σ) : ∀ (m s : Nat) (r : Option Nat), 1 ≤ s → s + m = 4096 → (∀ b, r = some b → b < 4096) → optI (bst (fun s => f (pc s) (pc (s &&& kn))) m s r) = R → WP X (d + 1) (0, 0) MX2_stumps 34 [(0, vP (some 82)), (3, vP (some a)), (4, vI (optI r)), (5, vI (few r)), (6, vI (s : Int))] [] σ Q := by
  intro m
  induction m with
  | zero =>
    intro s r h1 hm hb hR
    simp only [bst] at hR
    subst hR
    exact C_X2_stumps_34 hs ha ⟨by omega, fun _ => hQ, fun hz => absurd hz (by omega)⟩
  | succ m ih =>
    intro s r h1 hm hb hR
    have hr := optI_r hb
    have hpc := pc_le s
    have hpa := pc_and_le s kn
    simp only [bst] at hR
    have hs4 : s < 4096 := by omega
    have hp1 : 1 ≤ pc s := by
      rcases lob_spec hs4 with ⟨q, -⟩ | ⟨x, q1, -, q3, -⟩
      · omega
      · have := pcA_ins (g := 0) (x := x) (Nat.zero_testBit x) 12
        rw [if_pos q1, Nat.zero_or] at this
        have hsb : sub (2 ^ x) s := fun j hj => by
          rw [Nat.testBit_two_pow, decide_eq_true_eq] at hj
          rw [← hj]; exact q3
        have h2 := pc_sub hsb
        have e : pc (2 ^ x) = pcA (2 ^ x) 12 := rfl
        omega
    refine C_X2_stumps_34 hs ha ⟨by omega, fun hz => absurd hz (by omega), fun _ => c_bitCount hs4 ⟨_, rfl, hs, by omega, by omega, fun hz => ?_, fun hz => ⟨by omega, by omega, ?_⟩⟩⟩
    · rw [btr_few, decide_eq_false (by omega), Bool.false_and, if_neg (by decide)] at hR
      rw [show (s : Int) + 1 = ((s + 1 : Nat) : Int) by omega]
      exact ih (s + 1) r (by omega) (by omega) hb hR
    · rw [btr_few, decide_eq_true (by omega), Bool.true_and] at hR
      rw [hk, band_n (by omega), show ((pc s : Int)).toNat = pc s by omega, show (s : Int) + 1 = ((s + 1 : Nat) : Int) by omega]
      refine c_bitCount (Nat.lt_of_le_of_lt Nat.and_le_left hs4) ⟨_, rfl, hs, ?_⟩
      rw [hf (pc s) (pc (s &&& kn)) hp1 hpc hpa]
      refine ⟨fun hz2 => ?_, fun hz2 => ?_⟩
      · cases hg : f (pc s) (pc (s &&& kn)) with
        | true => rw [hg] at hz2; exact absurd rfl hz2
        | false =>
          rw [hg, if_neg (by decide)] at hR
          exact ih (s + 1) r (by omega) (by omega) hb hR
      · cases hg : f (pc s) (pc (s &&& kn)) with
        | true =>
          rw [hg, if_pos rfl] at hR
          exact ih (s + 1) (some s) (by omega) (by omega) (fun b hb2 => by cases hb2; exact hs4) hR
        | false => rw [hg] at hz2; exact absurd hz2 (by decide)
def stumG (B : List mCl) (Y : mY) (p : Nat) : Nat → Bool := fun s => !(ansY B Y p s)
theorem c_stumps (h : YB σ y Y B) {p : Nat} (hp : (p : Int) < Y 125 0) (hQ : ∀ σ', Agk DFn σ σ' → Q (some (vI (optI (bst (stumG B Y p) 4095 1 none)))) σ') : CALL X (d + 6) (0, 0) MX2_stumps [vP (some 82), vP (some y), vI (p : Int)] σ Q := by
  have hs := h.1
  have hc := h.c
  have hp6 : p < 6 := by omega
  have g := h.g hp6
  have wg := h.2.2.2.1.g hp6
  refine C_X2_stumps hs h.2.1 (c_guardY h hp ⟨_, rfl, hs, fun hz => (by cases hz), fun a ha => ?_⟩)
  obtain rfl := Option.some.inj ha
  rw [g.2.1]
  refine ⟨h.isG hp6, C_X2_findStumped hs h.2.1 (c_stumpedL (σ0 := σ) (B := B) (Y := Y) hp wg.2.1 (fun σ1 hA hst => ⟨rfl, hA.1, ?_⟩) 12 1 σ (by decide) rfl (Agk.rf hs) h (fun j j1 j2 => absurd j2 (by omega)))⟩
  have h1 := h.fF hA
  obtain ⟨kn, hkn⟩ : ∃ n : Nat, Y 128 p = (n : Int) := ⟨(Y 128 p).toNat, by omega⟩
  have g1 := h1.g hp6
  refine c_stumpsL (d := d + 5) hA.1 (h1.isG hp6) (kn := kn) (by rw [g1.2.2.1, hkn]) (by omega) (f := fun n k => !decide (0 < witN B Y p (Y 127 p) n k)) (fun n k n1 n2 n3 => ?_) (hQ σ1 hA) 4095 1 none (by decide) rfl (fun b hb => by cases hb) ?_
  · rw [hst n n1 (by omega)]
    unfold stuN
    rw [bit_1 (bitsF_13 _ _ _ (by omega)) (by omega)]
    rw [bitsF_bit, decide_eq_true (by omega), Bool.true_and]
    unfold fitF
    cases decide (0 < witN B Y p (Y 127 p) n k) <;> rfl
  · have e : (fun s => (fun n k => !decide (0 < witN B Y p (Y 127 p) n k)) (pc s) (pc (s &&& kn))) = stumG B Y p := by
      funext s
      unfold stumG ansY ansS witS
      rw [hkn, show ((kn : Int)).toNat = kn by omega]
    rw [e]
def stuOk (B : List mCl) (Y : mY) (p m : Nat) : Nat → Bool := fun s => ansS B Y p (Y 127 p) ((Y 128 p).toNat ||| s) m
theorem c_studyL {σ0 : mS} {p : Nat} (hp : (p : Int) < Y 125 0) {m0 kn : Nat} (hm0 : m0 < 4096) (hkn : Y 128 p = (kn : Int)) {R : Int} (hQ : ∀ σ', Agk D85 σ0 σ' → Q (some (vI R)) σ') : ∀ (m i : Nat) (σ : mS), i + m = 13 → Agk D85 σ0 σ → YB σ y Y B → stC (stuOk B Y p m0) (nd m0 kn) m i = R → WP X (d + 6) (0, 0) MX2_study 21 [(0, vP (some 82)), (1, vP (some y)), (2, vI (p : Int)), (3, vI (m0 : Int)), (4, vP (some (y + 9 + 3 * p))), (5, vI (grd (nd m0 kn) i : Int)), (6, vI (i : Int))] [] σ Q := by
  intro m
  induction m with
  | zero =>
    intro i σ hi hA h hR
    have hc := h.c
    simp only [stC] at hR
    subst hR
    exact C_X2_study_21 h.1 h.2.1 (h.isG (by omega)) ⟨by omega, fun _ => hQ σ hA, fun hz => absurd hz (by omega)⟩
  | succ m ih =>
    intro i σ hi hA h hR
    have hc := h.c
    have hp6 : p < 6 := by omega
    have g := h.g hp6
    have wg := h.2.2.2.1.g hp6
    have hU : nd m0 kn < 4096 := nd_lt hm0
    have hgi := grd_spec hU i
    simp only [stC] at hR
    refine C_X2_study_21 h.1 h.2.1 (h.isG hp6) ⟨by omega, fun hz => absurd hz (by omega), fun _ => ?_⟩
    rw [g.2.2.1, hkn, bor_n (by omega) (by omega), show (i : Int) + 1 = ((i + 1 : Nat) : Int) by omega]
    have wr := witS_r h hp (kn := kn ||| grd (nd m0 kn) i) (m := m0)
    refine c_wit (d := d + 1) h hp (or_lt (by omega) hgi.1) hm0 (fun σ1 hA1 => ⟨_, rfl, hA1.1, by omega, fun hz => ?_, fun hz => ?_⟩)
    · have h1 := h.f85 hA1
      have g1 := h1.g hp6
      have e : stuOk B Y p m0 (grd (nd m0 kn) i) = false := by
        unfold stuOk
        rw [hkn, show ((kn : Int)).toNat = kn by omega]
        exact decide_eq_false (by omega)
      rw [e, if_neg (by decide)] at hR
      rw [g1.2.2.1, hkn, band_nd hm0, band_nd hU]
      refine c_lowest (nd_lt hU) ⟨_, rfl, hA1.1, ?_⟩
      have hl := lob_lt (nd (nd m0 kn) (grd (nd m0 kn) i)) (nd_lt hU)
      rw [bor_n (by omega) (by omega)]
      exact ih (i + 1) σ1 (by omega) (hA.tr hA1 (fun _ _ q => q) (fun _ _ q => q)) h1 hR
    · have e : stuOk B Y p m0 (grd (nd m0 kn) i) = true := by
        unfold stuOk
        rw [hkn, show ((kn : Int)).toNat = kn by omega]
        exact decide_eq_true (by omega)
      rw [e, if_pos rfl] at hR
      rw [hR]
      exact hQ σ1 (hA.tr hA1 (fun _ _ q => q) (fun _ _ q => q))
theorem c_study (h : YB σ y Y B) {p : Nat} (hp : (p : Int) < Y 125 0) {m0 : Nat} (hm0 : m0 < 4096) (hQ : ∀ σ', Agk D85 σ σ' → Q (some (vI (stC (stuOk B Y p m0) (nd m0 (Y 128 p).toNat) 13 0))) σ') : CALL X (d + 6) (0, 0) MX2_study [vP (some 82), vP (some y), vI (p : Int), vI (m0 : Int)] σ Q := by
  have hs := h.1
  have hc := h.c
  have hp6 : p < 6 := by omega
  have wg := h.2.2.2.1.g hp6
  refine C_X2_study hs h.2.1 (c_guardY h hp ⟨_, rfl, hs, fun hz => (by cases hz), fun a ha => ?_⟩)
  obtain rfl := Option.some.inj ha
  obtain ⟨kn, hkn⟩ : ∃ n : Nat, Y 128 p = (n : Int) := ⟨(Y 128 p).toNat, by omega⟩
  rw [hkn, show ((kn : Int)).toNat = kn by omega] at hQ
  exact ⟨h.isG hp6, c_studyL (σ0 := σ) hp hm0 hkn hQ 13 0 σ rfl (Agk.rf hs) h rfl⟩
end STUMP
