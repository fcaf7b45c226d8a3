/-! an hour goes, hours go: on both sides -/
section HOURS
variable {X : mX} {d : Nat} {σ : mS} {Q : Option mV → mS → Prop} {y : Nat} {Y : mY} {B : List mCl}
/-- the questions from the q-th on, m of them, are brought -/
def hourQ (B : List mCl) : Nat → Nat → mY → mY
  | 0, _, Y => Y
  | m + 1, q, Y => hourQ B m (q + 1) (askY B Y q (Y 134 q))
/-- the guards from the p-th on, m of them, rest -/
def hourP (r : Int) : Nat → Nat → mY → mY
  | 0, _, Y => Y
  | m + 1, p, Y => hourP r m (p + 1) (mU Y 129 p (max 0 (Y 129 p - r)))
def hourY (B : List mCl) (Y : mY) : mY := mU (hourP (restC B) (Y 125 0).toNat 0 (hourQ B (Y 125 6).toNat 0 Y)) 125 11 (Y 125 11 + 1)
theorem hourQ_wf {nb : Int} : ∀ (m q : Nat) (Y : mY), q + m ≤ 6 → WFY nb Y → WFY nb (hourQ B m q Y)
  | 0, _, _, _, h => h
  | m + 1, q, Y, hq, h => hourQ_wf m (q + 1) _ (by omega) (askY_wf h (by omega))
theorem hourQ_o {a k : Nat} (h : a ≠ 128 ∧ a ≠ 129 ∧ a ≠ 133) : ∀ (m q : Nat) (Y : mY), hourQ B m q Y a k = Y a k
  | 0, _, _ => rfl
  | m + 1, q, Y => (hourQ_o h m (q + 1) _).trans (askY_o h)
theorem hourP_wf {nb r : Int} (hr : 0 ≤ r) : ∀ (m p : Nat) (Y : mY), p + m ≤ 6 → WFY nb Y → WFY nb (hourP r m p Y)
  | 0, _, _, _, h => h
  | m + 1, p, Y, hp, h => hourP_wf hr m (p + 1) _ (by omega) (h.mUp (by have := h.g (p := p) (by omega); omega))
theorem hourP_o {r : Int} {a k : Nat} (h : a ≠ 129) : ∀ (m p : Nat) (Y : mY), hourP r m p Y a k = Y a k
  | 0, _, _ => rfl
  | m + 1, p, Y => (hourP_o h m (p + 1) _).trans (by rw [mUs, if_neg (by omega)])
theorem restC_r (hB : ∀ c ∈ B, okC c) : 0 ≤ restC B ∧ restC B ≤ 99 := by
  have : ∀ (B : List mCl) (r : Int), (∀ c ∈ B, okC c) → 0 ≤ r ∧ r ≤ 99 → 0 ≤ B.foldl (fun r (c : mCl) => if c.1 = 2 then c.2.1 else r) r ∧ B.foldl (fun r (c : mCl) => if c.1 = 2 then c.2.1 else r) r ≤ 99 := by
    intro B
    induction B with
    | nil => intro r _ h; exact h
    | cons c B ih =>
      intro r hB h
      have := (hB c List.mem_cons_self).2.1
      refine ih _ (fun q hq => hB q (List.mem_cons_of_mem _ hq)) ?_
      show 0 ≤ (if c.1 = 2 then c.2.1 else r) ∧ (if c.1 = 2 then c.2.1 else r) ≤ 99
      split <;> omega
  exact this B 5 hB (by decide)
/-- the hour and the rest of the yard behind an hour -/
theorem hourY_o {a k : Nat} (h : a ≠ 128 ∧ a ≠ 129 ∧ a ≠ 133 ∧ ¬ (a = 125 ∧ k = 11)) : hourY B Y a k = Y a k := by
  unfold hourY
  rw [mUs, if_neg h.2.2.2, hourP_o h.2.1, hourQ_o ⟨h.1, h.2.1, h.2.2.1⟩]
theorem hourY_h : hourY B Y 125 11 = Y 125 11 + 1 := by
  unfold hourY
  rw [mUs, if_pos ⟨rfl, rfl⟩]
theorem WFY.hour {nb z : Int} (h : WFY nb Y) (hz : 0 ≤ z ∧ z ≤ 1000000) : WFY nb (mU Y 125 11 z) := by
  have na : ∀ a, a ≠ 125 → mU Y 125 11 z a = Y a := fun a ha => funext fun k => by rw [mUs, if_neg (by omega)]
  have c : ∀ k, k ≠ 11 → mU Y 125 11 z 125 k = Y 125 k := fun k hk => by rw [mUs, if_neg (by omega)]
  have c11 : mU Y 125 11 z 125 11 = z := by rw [mUs, if_pos ⟨rfl, rfl⟩]
  obtain ⟨h1, h2, h3, h4⟩ := h
  unfold WFY
  rw [c 0 (by decide), c 6 (by decide), c11, c 19 (by decide), c 28 (by decide), c 32 (by decide), c 35 (by decide), na 126 (by decide), na 127 (by decide), na 128 (by decide), na 129 (by decide), na 130 (by decide), na 131 (by decide), na 132 (by decide), na 133 (by decide), na 134 (by decide), na 143 (by decide), na 144 (by decide), na 145 (by decide), na 146 (by decide), na 147 (by decide), na 148 (by decide), na 149 (by decide)]
  exact ⟨h1, h2, hz, h4⟩
theorem hourY_wf {nb : Int} (hB : ∀ c ∈ B, okC c) (h : WFY nb Y) (hh : Y 125 11 < 1000000) : WFY nb (hourY B Y) := by
  have h1 := h.1
  have h2 := h.2.1
  have h3 := h.2.2.1
  exact (hourP_wf (restC_r hB).1 _ _ _ (by omega) (hourQ_wf _ _ _ (by omega) h)).hour (by omega)
theorem DX_tr {σ1 σ2 : mS} (h1 : Agk (DX y) σ σ1) (h2 : Agk (DX y) σ1 σ2) : Agk (DX y) σ σ2 := h1.tr h2 (fun _ _ q => q) (fun _ _ q => q)
theorem DM_tr {σ1 σ2 : mS} (h1 : Agk DM σ σ1) (h2 : Agk DM σ1 σ2) : Agk DM σ σ2 := h1.tr h2 (fun _ _ q => q) (fun _ _ q => q)
/-- the given one: the guards rest -/
theorem c_hourP {σ0 : mS} {r : Int} (hr : 0 ≤ r ∧ r ≤ 99) (hQ : ∀ σ', Agk (DX y) σ0 σ' → YB σ' y (mU (hourP r (Y 125 0).toNat 0 Y) 125 11 (Y 125 11 + 1)) B → Q none σ') (h19 : Y 125 11 < 1000000) : ∀ (m p : Nat) (σ : mS) (Y1 : mY), Agk (DX y) σ0 σ → YB σ y Y1 B → (p : Int) + m = Y1 125 0 → hourP r m p Y1 = hourP r (Y 125 0).toNat 0 Y → Y1 125 11 = Y 125 11 → WP X (d + 2) (0, 0) MX7_letHourPass 43 [(1, vP (some y)), (2, vI r), (3, vI (p : Int))] [] σ Q := by
  intro m
  induction m with
  | zero =>
    intro p σ Y1 hA h hp hE h11
    have hc := h.c
    refine C_X7_letHourPass_43 h.1 h.2.1 ⟨by omega, fun _ => ⟨by omega, ?_⟩, fun hz => absurd hz (by omega)⟩
    rw [hc.1.2.2.1]
    have hs2 : Sh (sI σ y 7 (Y1 125 11 + 1)) := sh_I h.1 (by omega) (kY h.1 h.2.1) (Or.inl (by decide))
    have hA2 : Agk (DX y) σ (sI σ y 7 (Y1 125 11 + 1)) := (Agk.rf h.1).sI hs2 (Or.inr (by unfold FYx; omega))
    refine hQ _ (DX_tr hA hA2) ?_
    simp only [hourP] at hE
    rw [← hE, ← h11]
    have k1 := h.2.2.1.setY (a0 := 125) (k0 := 11) (z := Y1 125 11 + 1) (by unfold vp; omega) (by decide)
    refine h.dx hA2 k1 (h.2.2.2.1.hour (by omega)) (by rw [mUs, if_neg (by omega)])
  | succ m ih =>
    intro p σ Y1 hA h hp hE h11
    have hc := h.c
    have hp6 : p < 6 := by omega
    refine C_X7_letHourPass_43 h.1 h.2.1 ⟨by omega, fun hz => absurd hz (by omega), fun _ => c_guardY h (by omega) ⟨_, rfl, h.1, fun hz => (by cases hz), fun a ha => ?_⟩⟩
    obtain rfl := Option.some.inj ha
    have g := h.g hp6
    have wg := h.2.2.2.1.g hp6
    rw [g.2.2.2.1, show (p : Int) + 1 = ((p + 1 : Nat) : Int) by omega]
    have hs2 : Sh (sI σ (y + 9 + 3 * p) 3 (max 0 (Y1 129 p - r))) := sh_I h.1 (by omega) (kG h.1 (h.isG hp6)) (Or.inl (by decide))
    have hA2 : Agk (DX y) σ (sI σ (y + 9 + 3 * p) 3 (max 0 (Y1 129 p - r))) := (Agk.rf h.1).sI hs2 (Or.inr (by unfold FYx; omega))
    refine ⟨h.isG hp6, by omega, ih (p + 1) _ (mU Y1 129 p (max 0 (Y1 129 p - r))) (DX_tr hA hA2) ?_ ?_ hE ?_⟩
    · have k1 := h.2.2.1.setY (a0 := 129) (k0 := p) (z := max 0 (Y1 129 p - r)) (by unfold vp; omega) (by decide)
      rw [show y + (px 129 p).1 = y + 9 + 3 * p from (Nat.add_assoc y 9 _).symm] at k1
      exact h.dx hA2 k1 (h.2.2.2.1.mUp (by omega)) (by rw [mUs, if_neg (by omega)])
    · rw [mUs, if_neg (by omega)]
      omega
    · rw [mUs, if_neg (by omega)]
      exact h11
theorem c_hourQ {σ0 : mS} (hQ : ∀ σ', Agk (DX y) σ0 σ' → YB σ' y (hourY B Y) B → Q none σ') (h19 : Y 125 11 < 1000000) : ∀ (m q : Nat) (σ : mS) (Y1 : mY), Agk (DX y) σ0 σ → YB σ y Y1 B → (q : Int) + m = Y1 125 6 → hourQ B m q Y1 = hourQ B (Y 125 6).toNat 0 Y → Y1 125 11 = Y 125 11 → Y1 125 0 = Y 125 0 → WP X (d + 8) (0, 0) MX7_letHourPass 2 [(0, vP (some 83)), (1, vP (some y)), (2, vI (q : Int))] [] σ Q := by
  intro m
  induction m with
  | zero =>
    intro q σ Y1 hA h hq hE h11 h0
    have hc := h.c
    simp only [hourQ] at hE
    refine C_X7_letHourPass_2 h.1 h.2.1 ⟨by omega, fun _ => c_rest h ⟨_, rfl, h.1, ?_⟩, fun hz => absurd hz (by omega)⟩
    refine c_hourP (Y := Y1) (σ0 := σ0) (restC_r h.2.2.2.2.1.1) (fun σ' hA' h' => hQ σ' hA' ?_) (by omega) (Y1 125 0).toNat 0 σ Y1 hA h (by omega) rfl rfl
    unfold hourY
    rw [← hE, ← h0, ← h11]
    exact h'
  | succ m ih =>
    intro q σ Y1 hA h hq hE h11 h0
    have hc := h.c
    have hq6 : q < 6 := by omega
    refine C_X7_letHourPass_2 h.1 h.2.1 ⟨by omega, fun hz => absurd hz (by omega), fun _ => c_questionY h (by omega) ⟨_, rfl, h.1, fun hz => (by cases hz), fun a ha => ?_⟩⟩
    obtain rfl := Option.some.inj ha
    have gq := h.q hq6
    rw [show (q : Int) + 1 = ((q + 1 : Nat) : Int) by omega, gq.2.2.2]
    have hr := h.1.2.2.1 (y + 11 + 3 * q) 3
    rw [gq.2.2.2] at hr
    refine ⟨h.isQ hq6, c_putTo h (by omega) hr (fun σ1 hA1 h1 => ⟨rfl, hA1.1, ih (q + 1) σ1 _ (DX_tr hA hA1) h1 ?_ hE ?_ ?_⟩)⟩
    · rw [askY_o (by decide)]; omega
    · rw [askY_o (by decide)]; exact h11
    · rw [askY_o (by decide)]; exact h0
theorem c_hour (h : YB σ y Y B) (h19 : Y 125 11 < 1000000) (hQ : ∀ σ', Agk (DX y) σ σ' → YB σ' y (hourY B Y) B → Q none σ') : CALL X (d + 8) (0, 0) MX7_letHourPass [vP (some 83), vP (some y)] σ Q :=
  C_X7_letHourPass h.1 h.2.1 (c_hourQ hQ h19 (Y 125 6).toNat 0 σ Y (Agk.rf h.1) h (by have := h.c; omega) rfl rfl rfl)
def hoursY (B : List mCl) : Nat → mY → mY
  | 0, Y => Y
  | n + 1, Y => hoursY B n (hourY B Y)
theorem hoursY_o {a k : Nat} (h : a ≠ 128 ∧ a ≠ 129 ∧ a ≠ 133 ∧ ¬ (a = 125 ∧ k = 11)) : ∀ (n : Nat) (Y : mY), hoursY B n Y a k = Y a k
  | 0, _ => rfl
  | n + 1, Y => (hoursY_o h n _).trans (hourY_o h)
theorem hoursY_h : ∀ (n : Nat) (Y : mY), hoursY B n Y 125 11 = Y 125 11 + n
  | 0, _ => by simp [hoursY]
  | n + 1, Y => by
    simp only [hoursY]
    rw [hoursY_h n, hourY_h]
    omega
theorem c_letPassL {σ0 : mS} {N : Nat} (hN : N ≤ 60) {Z : mY} (hQ : ∀ σ', Agk (DX y) σ0 σ' → YB σ' y Z B → Q none σ') : ∀ (m i : Nat) (σ : mS) (Y1 : mY), i + m = N → Agk (DX y) σ0 σ → YB σ y Y1 B → Y1 125 11 + m < 1000000 → hoursY B m Y1 = Z → WP X (d + 9) (0, 0) MX7_letPass 2 [(0, vP (some 83)), (1, vP (some y)), (2, vI (N : Int)), (3, vI (i : Int))] [] σ Q := by
  intro m
  induction m with
  | zero =>
    intro i σ Y1 hi hA h h11 hE
    simp only [hoursY] at hE
    subst hE
    exact C_X7_letPass_2 h.1 h.2.1 ⟨by omega, by omega, fun _ => hQ σ hA h, fun hz => absurd hz (by omega)⟩
  | succ m ih =>
    intro i σ Y1 hi hA h h11 hE
    refine C_X7_letPass_2 h.1 h.2.1 ⟨by omega, by omega, fun hz => absurd hz (by omega), fun _ => c_hour h (by omega) (fun σ1 hA1 h1 => ⟨rfl, hA1.1, ?_⟩)⟩
    rw [show (i : Int) + 1 = ((i + 1 : Nat) : Int) by omega]
    refine ih (i + 1) σ1 _ (by omega) (DX_tr hA hA1) h1 ?_ hE
    rw [hourY_h]
    omega
theorem c_letPass (h : YB σ y Y B) {N : Nat} (hN : N ≤ 60) (h11 : Y 125 11 ≤ 10000) (hQ : ∀ σ', Agk (DX y) σ σ' → YB σ' y (hoursY B N Y) B → Q none σ') : CALL X (d + 9) (0, 0) MX7_letPass [vP (some 83), vP (some y), vI (N : Int)] σ Q :=
  C_X7_letPass h.1 h.2.1 (c_letPassL hN hQ N 0 σ Y (by omega) (Agk.rf h.1) h (by omega) rfl)
/-- the reference: an hour -/
def MS (σ : mS) (Y : mY) (B : List mCl) : Prop := MB σ B ∧ WFY (σ.2.1 125 18) Y ∧ ∀ a k, a ≠ 142 → σ.2.1 a k = Y a k
theorem MS.st {σ' : mS} {Y' : mY} (h : MS σ Y B) (ha : Agk DM σ σ') (hW : WFY (σ.2.1 125 18) Y') (hm : ∀ a k, a ≠ 142 → σ'.2.1 a k = Y' a k) (h19 : Y' 125 19 = Y 125 19) : MS σ' Y' B := by
  refine ⟨h.1.dm ha hW (fun a k hf _ => hm a k (by unfold FYm at hf; omega)) (by rw [h19, h.2.2 125 19 (by decide)]), ?_, hm⟩
  rw [ha.2.2 125 18 (fun q => (DM_ok _ _ q).2.2.1 ⟨rfl, Or.inl rfl⟩)]
  exact hW
theorem ansY_cg {Y' : mY} {p m : Nat} (h1 : Y' 126 p = Y 126 p) (h2 : Y' 129 p = Y 129 p) (h3 : Y' 125 11 = Y 125 11) (h4 : ∀ k, Y' 130 k = Y 130 k) (h5 : Y' 127 p = Y 127 p) (h6 : Y' 128 p = Y 128 p) : ansY B Y' p m = ansY B Y p m := by
  unfold ansY ansS witS
  rw [h5, h6, witN_cg h1 h2 h3 (h4 _)]
theorem putY_cg {Y' : mY} {q p : Nat} (h : ∀ a k, a ≠ 142 → Y' a k = Y a k) : ∀ a k, a ≠ 142 → putY B Y' q p a k = putY B Y q p a k := by
  intro a k ha
  unfold putY
  rw [h 131 q (by decide), h 128 p (by decide), h 129 p (by decide), ansY_cg (Y := Y) (Y' := Y') (h 126 p (by decide)) (h 129 p (by decide)) (h 125 11 (by decide)) (fun k => h 130 k (by decide)) (h 127 p (by decide)) (h 128 p (by decide))]
  split
  · rw [mUs, mUs, mUs, mUs, h a k ha]
  · rw [mUs, mUs, mUs, mUs, h a k ha]
theorem m_ask1 (h : MS σ Y B) {q p : Nat} (hq : q < 6) (hp : p < 6) (hQ : ∀ σ', Agk DM σ σ' → MS σ' (putY B Y q p) B → Q none σ') : CALL X (d + 6) (0, 0) MX11_asks [vP (some 125), vI (q : Int), vI (p : Int)] σ Q :=
  m_asks h.1 hq hp (fun σ1 hA hm => hQ σ1 hA (h.st hA (putY_wf h.2.1 hq hp) (fun a k ha => (hm a k ha).trans (putY_cg h.2.2 a k ha)) (putY_o (by decide))))
theorem m_hourP {σ0 : mS} {r : Int} (hr : 0 ≤ r ∧ r ≤ 99) (hQ : ∀ σ', Agk DM σ0 σ' → MS σ' (mU (hourP r (Y 125 0).toNat 0 Y) 125 11 (Y 125 11 + 1)) B → Q none σ') (h19 : Y 125 11 < 1000000) : ∀ (m p : Nat) (σ : mS) (Y1 : mY), Agk DM σ0 σ → MS σ Y1 B → (p : Int) + m = Y1 125 0 → hourP r m p Y1 = hourP r (Y 125 0).toNat 0 Y → Y1 125 11 = Y 125 11 → WP X (d + 2) (0, 0) MX11_goesHour 54 [(0, vP (some 125)), (1, vI r), (2, vI (p : Int))] [] σ Q := by
  intro m
  induction m with
  | zero =>
    intro p σ Y1 hA h hp hE h11
    have hs := h.1.1
    have hw := h.2.1.2.2.1
    have hw0 := h.2.1.1
    have e0 := h.2.2 125 0 (by decide)
    have e11 := h.2.2 125 11 (by decide)
    refine C_X11_goesHour_54 hs ⟨by omega, fun _ => ⟨by omega, ?_⟩, fun hz => absurd hz (by omega)⟩
    rw [e11]
    have hs2 : Sh (sI σ 125 11 (Y1 125 11 + 1)) := sh_I hs (by omega) (hs.k (a := 125) rfl) (Or.inl (by decide))
    have hA2 : Agk DM σ (sI σ 125 11 (Y1 125 11 + 1)) := (Agk.rf hs).sI hs2 (Or.inr (by unfold vp; omega))
    refine hQ _ (DM_tr hA hA2) ?_
    simp only [hourP] at hE
    rw [← hE, ← h11]
    refine h.st hA2 (h.2.1.hour (by omega)) (fun a k ha => ?_) (by rw [mUs, if_neg (by omega)])
    rw [sI_at, mUs, h.2.2 a k ha]
  | succ m ih =>
    intro p σ Y1 hA h hp hE h11
    have hs := h.1.1
    have hw0 := h.2.1.1
    have hp6 : p < 6 := by omega
    have wg := h.2.1.g hp6
    have e0 := h.2.2 125 0 (by decide)
    refine C_X11_goesHour_54 hs ⟨by omega, fun hz => absurd hz (by omega), fun _ => ⟨by omega, by omega, ?_⟩⟩
    rw [show ((p : Int)).toNat = p by omega, h.2.2 129 p (by decide), show (p : Int) + 1 = ((p + 1 : Nat) : Int) by omega]
    have hs2 : Sh (sI σ 129 p (max 0 (Y1 129 p - r))) := sh_I hs (by omega) (hs.k (a := 129) rfl) (Or.inl (by decide))
    have hA2 : Agk DM σ (sI σ 129 p (max 0 (Y1 129 p - r))) := (Agk.rf hs).sI hs2 (Or.inr (by unfold vp; omega))
    refine ⟨by omega, ih (p + 1) _ (mU Y1 129 p (max 0 (Y1 129 p - r))) (DM_tr hA hA2) (h.st hA2 (h.2.1.mUp (by omega)) (fun a k ha => ?_) (by rw [mUs, if_neg (by omega)])) ?_ hE ?_⟩
    · rw [sI_at, mUs, h.2.2 a k ha]
    · rw [mUs, if_neg (by omega)]
      omega
    · rw [mUs, if_neg (by omega)]
      exact h11
theorem m_hourQ {σ0 : mS} (hQ : ∀ σ', Agk DM σ0 σ' → MS σ' (hourY B Y) B → Q none σ') (h19 : Y 125 11 < 1000000) : ∀ (m q : Nat) (σ : mS) (Y1 : mY), Agk DM σ0 σ → MS σ Y1 B → (q : Int) + m = Y1 125 6 → hourQ B m q Y1 = hourQ B (Y 125 6).toNat 0 Y → Y1 125 11 = Y 125 11 → Y1 125 0 = Y 125 0 → WP X (d + 7) (0, 0) MX11_goesHour 2 [(0, vP (some 125)), (1, vI (q : Int))] [] σ Q := by
  intro m
  induction m with
  | zero =>
    intro q σ Y1 hA h hq hE h11 h0
    have hs := h.1.1
    have hw0 := h.2.1.1
    have e6 := h.2.2 125 6 (by decide)
    simp only [hourQ] at hE
    refine C_X11_goesHour_2 hs ⟨by have := h.2.1.2.1; omega, fun _ => m_rest h.1 ⟨_, rfl, hs, ?_⟩, fun hz => absurd hz (by omega)⟩
    refine m_hourP (Y := Y1) (σ0 := σ0) (restC_r h.1.2.2.1.1) (fun σ' hA' h' => hQ σ' hA' ?_) (by omega) (Y1 125 0).toNat 0 σ Y1 hA h (by omega) rfl rfl
    unfold hourY
    rw [← hE, ← h0, ← h11]
    exact h'
  | succ m ih =>
    intro q σ Y1 hA h hq hE h11 h0
    have hs := h.1.1
    have hw6 := h.2.1.2.1
    have hw0 := h.2.1.1
    have hq6 : q < 6 := by omega
    have wq := h.2.1.q hq6
    have e6 := h.2.2 125 6 (by decide)
    have wb := wq.2.2.2 (by omega)
    have same : ¬ (Y1 133 q = 0 ∧ 0 ≤ Y1 134 q ∧ Y1 134 q < Y1 125 0) → WP X (d + 7) (0, 0) MX11_goesHour 2 [(0, vP (some 125)), (1, vI ((q + 1 : Nat) : Int))] [] σ Q := fun hn => by
      simp only [hourQ] at hE
      unfold askY at hE
      rw [if_neg hn] at hE
      exact ih (q + 1) σ Y1 hA h (by omega) hE h11 h0
    refine C_X11_goesHour_2 hs ⟨by omega, fun hz => absurd hz (by omega), fun _ => ⟨by omega, by omega, ?_⟩⟩
    rw [show ((q : Int)).toNat = q by omega, show (q : Int) + 1 = ((q + 1 : Nat) : Int) by omega, h.2.2 133 q (by decide), h.2.2 134 q (by decide)]
    refine ⟨fun hz => same (by omega), fun hz => ⟨fun hz2 => same (by omega), fun hz2 => ?_⟩⟩
    obtain ⟨p, hp⟩ : ∃ p : Nat, Y1 134 q = (p : Int) := ⟨(Y1 134 q).toNat, by omega⟩
    rw [hp]
    simp only [hourQ] at hE
    unfold askY at hE
    rw [if_pos ⟨hz, by omega, by omega⟩, hp, show ((p : Int)).toNat = p by omega] at hE
    refine m_ask1 h hq6 (by omega) (fun σ1 hA1 h1 => ⟨rfl, hA1.1, ih (q + 1) σ1 _ (DM_tr hA hA1) h1 ?_ hE ?_ ?_⟩)
    · rw [putY_o (by decide)]; omega
    · rw [putY_o (by decide)]; exact h11
    · rw [putY_o (by decide)]; exact h0
theorem m_hour (h : MS σ Y B) (h19 : Y 125 11 < 1000000) (hQ : ∀ σ', Agk DM σ σ' → MS σ' (hourY B Y) B → Q none σ') : CALL X (d + 7) (0, 0) MX11_goesHour [vP (some 125)] σ Q :=
  C_X11_goesHour h.1.1 (m_hourQ hQ h19 (Y 125 6).toNat 0 σ Y (Agk.rf h.1.1) h (by have := h.2.1.2.1; omega) rfl rfl rfl)
theorem MB.ms (h : MB σ B) : MS σ σ.2.1 B := ⟨h, h.2.1, fun _ _ _ => rfl⟩
end HOURS
