/-! a yard is kept, and taken again: on both sides -/
section KEEPS
variable {X : mX} {d : Nat} {σ : mS} {Q : Option mV → mS → Prop} {Y : mY}
/-- the place of the reference's row of 130 that keeps a place -/
def im (a k : Nat) : Nat :=
  if a = 125 then (if k = 0 then 123 else if k = 6 then 124 else if k = 11 then 125 else if k = 28 then 126 else if k = 32 then 127 else if k = 35 then 128 else 129)
  else if a = 126 then k else if a = 127 then 6 + k else if a = 128 then 12 + k else if a = 129 then 18 + k else if a = 131 then 24 + k else if a = 132 then 30 + k else if a = 133 then 36 + k else if a = 134 then 42 + k
  else if a = 130 then 48 + k else if a = 143 then 72 + k else if a = 144 then 77 + k else if a = 145 then 82 + k else if a = 146 then 87 + k else if a = 147 then 97 + k else if a = 148 then 107 + k else 115 + k
def mi (n : Nat) : Nat × Nat :=
  if n < 6 then (126, n) else if n < 12 then (127, n - 6) else if n < 18 then (128, n - 12) else if n < 24 then (129, n - 18) else if n < 30 then (131, n - 24) else if n < 36 then (132, n - 30) else if n < 42 then (133, n - 36) else if n < 48 then (134, n - 42)
  else if n < 72 then (130, n - 48) else if n < 77 then (143, n - 72) else if n < 82 then (144, n - 77) else if n < 87 then (145, n - 82) else if n < 97 then (146, n - 87) else if n < 107 then (147, n - 97) else if n < 115 then (148, n - 107) else if n < 123 then (149, n - 115)
  else (125, if n = 123 then 0 else if n = 124 then 6 else if n = 125 then 11 else if n = 126 then 28 else if n = 127 then 32 else if n = 128 then 35 else 19)
theorem imgV_im {b a k : Nat} {μ : mY} (h : vp a k) : imgV b μ a k = μ b (im a k) := by
  rcases h with ⟨rfl, rfl | rfl | rfl | rfl | rfl | rfl | rfl⟩ | ⟨rfl | rfl | rfl | rfl | rfl | rfl | rfl | rfl, hk⟩ | ⟨rfl, hk⟩ | ⟨rfl | rfl | rfl, hk⟩ | ⟨rfl | rfl, hk⟩ | ⟨rfl | rfl, hk⟩
  all_goals rfl
theorem mi_im {a k : Nat} (h : vp a k) : mi (im a k) = (a, k) := by
  rcases h with ⟨rfl, rfl | rfl | rfl | rfl | rfl | rfl | rfl⟩ | ⟨rfl | rfl | rfl | rfl | rfl | rfl | rfl | rfl, hk⟩ | ⟨rfl, hk⟩ | ⟨rfl | rfl | rfl, hk⟩ | ⟨rfl | rfl, hk⟩ | ⟨rfl | rfl, hk⟩
  · rfl
  · rfl
  · rfl
  · rfl
  · rfl
  · rfl
  · rfl
  · show mi (k) = (126, k)
    unfold mi
    rw [if_pos (show k < 6 by omega)]
  · show mi (6 + k) = (127, k)
    unfold mi
    rw [if_neg (show ¬ 6 + k < 6 by omega), if_pos (show 6 + k < 12 by omega)]
    rw [show 6 + k - 6 = k by omega]
  · show mi (12 + k) = (128, k)
    unfold mi
    rw [if_neg (show ¬ 12 + k < 6 by omega), if_neg (show ¬ 12 + k < 12 by omega), if_pos (show 12 + k < 18 by omega)]
    rw [show 12 + k - 12 = k by omega]
  · show mi (18 + k) = (129, k)
    unfold mi
    rw [if_neg (show ¬ 18 + k < 6 by omega), if_neg (show ¬ 18 + k < 12 by omega), if_neg (show ¬ 18 + k < 18 by omega), if_pos (show 18 + k < 24 by omega)]
    rw [show 18 + k - 18 = k by omega]
  · show mi (24 + k) = (131, k)
    unfold mi
    rw [if_neg (show ¬ 24 + k < 6 by omega), if_neg (show ¬ 24 + k < 12 by omega), if_neg (show ¬ 24 + k < 18 by omega), if_neg (show ¬ 24 + k < 24 by omega), if_pos (show 24 + k < 30 by omega)]
    rw [show 24 + k - 24 = k by omega]
  · show mi (30 + k) = (132, k)
    unfold mi
    rw [if_neg (show ¬ 30 + k < 6 by omega), if_neg (show ¬ 30 + k < 12 by omega), if_neg (show ¬ 30 + k < 18 by omega), if_neg (show ¬ 30 + k < 24 by omega), if_neg (show ¬ 30 + k < 30 by omega), if_pos (show 30 + k < 36 by omega)]
    rw [show 30 + k - 30 = k by omega]
  · show mi (36 + k) = (133, k)
    unfold mi
    rw [if_neg (show ¬ 36 + k < 6 by omega), if_neg (show ¬ 36 + k < 12 by omega), if_neg (show ¬ 36 + k < 18 by omega), if_neg (show ¬ 36 + k < 24 by omega), if_neg (show ¬ 36 + k < 30 by omega), if_neg (show ¬ 36 + k < 36 by omega), if_pos (show 36 + k < 42 by omega)]
    rw [show 36 + k - 36 = k by omega]
  · show mi (42 + k) = (134, k)
    unfold mi
    rw [if_neg (show ¬ 42 + k < 6 by omega), if_neg (show ¬ 42 + k < 12 by omega), if_neg (show ¬ 42 + k < 18 by omega), if_neg (show ¬ 42 + k < 24 by omega), if_neg (show ¬ 42 + k < 30 by omega), if_neg (show ¬ 42 + k < 36 by omega), if_neg (show ¬ 42 + k < 42 by omega), if_pos (show 42 + k < 48 by omega)]
    rw [show 42 + k - 42 = k by omega]
  · show mi (48 + k) = (130, k)
    unfold mi
    rw [if_neg (show ¬ 48 + k < 6 by omega), if_neg (show ¬ 48 + k < 12 by omega), if_neg (show ¬ 48 + k < 18 by omega), if_neg (show ¬ 48 + k < 24 by omega), if_neg (show ¬ 48 + k < 30 by omega), if_neg (show ¬ 48 + k < 36 by omega), if_neg (show ¬ 48 + k < 42 by omega), if_neg (show ¬ 48 + k < 48 by omega), if_pos (show 48 + k < 72 by omega)]
    rw [show 48 + k - 48 = k by omega]
  · show mi (72 + k) = (143, k)
    unfold mi
    rw [if_neg (show ¬ 72 + k < 6 by omega), if_neg (show ¬ 72 + k < 12 by omega), if_neg (show ¬ 72 + k < 18 by omega), if_neg (show ¬ 72 + k < 24 by omega), if_neg (show ¬ 72 + k < 30 by omega), if_neg (show ¬ 72 + k < 36 by omega), if_neg (show ¬ 72 + k < 42 by omega), if_neg (show ¬ 72 + k < 48 by omega), if_neg (show ¬ 72 + k < 72 by omega), if_pos (show 72 + k < 77 by omega)]
    rw [show 72 + k - 72 = k by omega]
  · show mi (77 + k) = (144, k)
    unfold mi
    rw [if_neg (show ¬ 77 + k < 6 by omega), if_neg (show ¬ 77 + k < 12 by omega), if_neg (show ¬ 77 + k < 18 by omega), if_neg (show ¬ 77 + k < 24 by omega), if_neg (show ¬ 77 + k < 30 by omega), if_neg (show ¬ 77 + k < 36 by omega), if_neg (show ¬ 77 + k < 42 by omega), if_neg (show ¬ 77 + k < 48 by omega), if_neg (show ¬ 77 + k < 72 by omega), if_neg (show ¬ 77 + k < 77 by omega), if_pos (show 77 + k < 82 by omega)]
    rw [show 77 + k - 77 = k by omega]
  · show mi (82 + k) = (145, k)
    unfold mi
    rw [if_neg (show ¬ 82 + k < 6 by omega), if_neg (show ¬ 82 + k < 12 by omega), if_neg (show ¬ 82 + k < 18 by omega), if_neg (show ¬ 82 + k < 24 by omega), if_neg (show ¬ 82 + k < 30 by omega), if_neg (show ¬ 82 + k < 36 by omega), if_neg (show ¬ 82 + k < 42 by omega), if_neg (show ¬ 82 + k < 48 by omega), if_neg (show ¬ 82 + k < 72 by omega), if_neg (show ¬ 82 + k < 77 by omega), if_neg (show ¬ 82 + k < 82 by omega), if_pos (show 82 + k < 87 by omega)]
    rw [show 82 + k - 82 = k by omega]
  · show mi (87 + k) = (146, k)
    unfold mi
    rw [if_neg (show ¬ 87 + k < 6 by omega), if_neg (show ¬ 87 + k < 12 by omega), if_neg (show ¬ 87 + k < 18 by omega), if_neg (show ¬ 87 + k < 24 by omega), if_neg (show ¬ 87 + k < 30 by omega), if_neg (show ¬ 87 + k < 36 by omega), if_neg (show ¬ 87 + k < 42 by omega), if_neg (show ¬ 87 + k < 48 by omega), if_neg (show ¬ 87 + k < 72 by omega), if_neg (show ¬ 87 + k < 77 by omega), if_neg (show ¬ 87 + k < 82 by omega), if_neg (show ¬ 87 + k < 87 by omega), if_pos (show 87 + k < 97 by omega)]
    rw [show 87 + k - 87 = k by omega]
  · show mi (97 + k) = (147, k)
    unfold mi
    rw [if_neg (show ¬ 97 + k < 6 by omega), if_neg (show ¬ 97 + k < 12 by omega), if_neg (show ¬ 97 + k < 18 by omega), if_neg (show ¬ 97 + k < 24 by omega), if_neg (show ¬ 97 + k < 30 by omega), if_neg (show ¬ 97 + k < 36 by omega), if_neg (show ¬ 97 + k < 42 by omega), if_neg (show ¬ 97 + k < 48 by omega), if_neg (show ¬ 97 + k < 72 by omega), if_neg (show ¬ 97 + k < 77 by omega), if_neg (show ¬ 97 + k < 82 by omega), if_neg (show ¬ 97 + k < 87 by omega), if_neg (show ¬ 97 + k < 97 by omega), if_pos (show 97 + k < 107 by omega)]
    rw [show 97 + k - 97 = k by omega]
  · show mi (107 + k) = (148, k)
    unfold mi
    rw [if_neg (show ¬ 107 + k < 6 by omega), if_neg (show ¬ 107 + k < 12 by omega), if_neg (show ¬ 107 + k < 18 by omega), if_neg (show ¬ 107 + k < 24 by omega), if_neg (show ¬ 107 + k < 30 by omega), if_neg (show ¬ 107 + k < 36 by omega), if_neg (show ¬ 107 + k < 42 by omega), if_neg (show ¬ 107 + k < 48 by omega), if_neg (show ¬ 107 + k < 72 by omega), if_neg (show ¬ 107 + k < 77 by omega), if_neg (show ¬ 107 + k < 82 by omega), if_neg (show ¬ 107 + k < 87 by omega), if_neg (show ¬ 107 + k < 97 by omega), if_neg (show ¬ 107 + k < 107 by omega), if_pos (show 107 + k < 115 by omega)]
    rw [show 107 + k - 107 = k by omega]
  · show mi (115 + k) = (149, k)
    unfold mi
    rw [if_neg (show ¬ 115 + k < 6 by omega), if_neg (show ¬ 115 + k < 12 by omega), if_neg (show ¬ 115 + k < 18 by omega), if_neg (show ¬ 115 + k < 24 by omega), if_neg (show ¬ 115 + k < 30 by omega), if_neg (show ¬ 115 + k < 36 by omega), if_neg (show ¬ 115 + k < 42 by omega), if_neg (show ¬ 115 + k < 48 by omega), if_neg (show ¬ 115 + k < 72 by omega), if_neg (show ¬ 115 + k < 77 by omega), if_neg (show ¬ 115 + k < 82 by omega), if_neg (show ¬ 115 + k < 87 by omega), if_neg (show ¬ 115 + k < 97 by omega), if_neg (show ¬ 115 + k < 107 by omega), if_neg (show ¬ 115 + k < 115 by omega), if_pos (show 115 + k < 123 by omega)]
    rw [show 115 + k - 115 = k by omega]
theorem im_inj {a k a' k' : Nat} (h : vp a k) (h' : vp a' k') (e : im a k = im a' k') : a = a' ∧ k = k' := by
  have h1 := mi_im h
  have h2 := mi_im h'
  rw [e, h2] at h1
  exact ⟨(Prod.mk.inj h1).1.symm, (Prod.mk.inj h1).2.symm⟩
def SU (S : Nat → Nat → Prop) (b j : Nat) : Nat → Nat → Prop := fun a k => S a k ∨ (a = b ∧ k = j)
def KP (x : Nat) (σ0 : mS) (S : Nat → Nat → Prop) (σ' : mS) : Prop := (x = 151 ∨ x = 152) ∧ Agk (fun a _ => a = x) σ0 σ' ∧ ∀ a k, vp a k → S a k → σ'.2.1 x (im a k) = σ0.2.1 a k
theorem KP.st {x : Nat} {σ0 σ' : mS} {S : Nat → Nat → Prop} {b j n j' : Nat} (h : KP x σ0 S σ') (hn : n = im b j) (hj : j' = j) (hv : vp b j) : KP x σ0 (SU S b j) (sI σ' x n (σ'.2.1 b j')) := by
  obtain ⟨hx, hA, hS⟩ := h
  subst hn
  subst hj
  have hs1 : Sh (sI σ' x (im b j') (σ'.2.1 b j')) := sh_I hA.1 (hA.1.2.2.1 _ _) (kIm hA.1 hx) (Or.inl (by decide))
  refine ⟨hx, hA.sI hs1 rfl, fun a k hp hq => ?_⟩
  rw [sI_at]
  by_cases hz : a = b ∧ k = j'
  · rw [hz.1, hz.2, if_pos ⟨rfl, rfl⟩]
    refine hA.2.2 b j' (fun q => ?_)
    unfold vp at hv
    omega
  · rw [if_neg]
    · rcases hq with hq | hq
      · exact hS a k hp hq
      · exact absurd hq hz
    · rintro ⟨-, e⟩
      exact hz (im_inj hp hv e)
theorem KP.mono {x : Nat} {σ0 σ' : mS} {S S' : Nat → Nat → Prop} (h : KP x σ0 S σ') (hS : ∀ a k, vp a k → S' a k → S a k) : KP x σ0 S' σ' := ⟨h.1, h.2.1, fun a k hp hq => h.2.2 a k hp (hS a k hp hq)⟩
def AP (x : Nat) (σ0 : mS) (S : Nat → Nat → Prop) (σ' : mS) : Prop := (x = 151 ∨ x = 152) ∧ Agk vp σ0 σ' ∧ ∀ a k, vp a k → S a k → σ'.2.1 a k = σ0.2.1 x (im a k)
theorem AP.st {x : Nat} {σ0 σ' : mS} {S : Nat → Nat → Prop} {b j n j' : Nat} (h : AP x σ0 S σ') (hn : n = im b j) (hj : j' = j) (hv : vp b j) : AP x σ0 (SU S b j) (sI σ' b j' (σ'.2.1 x n)) := by
  obtain ⟨hx, hA, hS⟩ := h
  subst hn
  subst hj
  have hk : ∃ kd, σ'.1[b]? = some kd ∧ kd.1 ≠ 6 := by
    have hs := hA.1
    rcases hv with ⟨rfl, -⟩ | ⟨rfl | rfl | rfl | rfl | rfl | rfl | rfl | rfl, -⟩ | ⟨rfl, -⟩ | ⟨rfl | rfl | rfl, -⟩ | ⟨rfl | rfl, -⟩ | ⟨rfl | rfl, -⟩
    all_goals exact ⟨_, hs.k rfl, by decide⟩
  obtain ⟨kd, hk1, hk2⟩ := hk
  have hs1 : Sh (sI σ' b j' (σ'.2.1 x (im b j'))) := sh_I hA.1 (hA.1.2.2.1 _ _) hk1 (Or.inl hk2)
  refine ⟨hx, hA.sI hs1 hv, fun a k hp hq => ?_⟩
  rw [sI_at]
  by_cases hz : a = b ∧ k = j'
  · rw [if_pos hz, hz.1, hz.2]
    refine hA.2.2 x _ (fun q => ?_)
    unfold vp at q
    omega
  · rw [if_neg hz]
    rcases hq with hq | hq
    · exact hS a k hp hq
    · exact absurd hq hz
theorem AP.mono {x : Nat} {σ0 σ' : mS} {S S' : Nat → Nat → Prop} (h : AP x σ0 S σ') (hS : ∀ a k, vp a k → S' a k → S a k) : AP x σ0 S' σ' := ⟨h.1, h.2.1, fun a k hp hq => h.2.2 a k hp (hS a k hp hq)⟩
def S1 (i : Nat) : Nat → Nat → Prop := fun a k => ((126 ≤ a ∧ a ≤ 129) ∨ (131 ≤ a ∧ a ≤ 134)) ∧ k < i
def S2 (i : Nat) : Nat → Nat → Prop := fun a k => (126 ≤ a ∧ a ≤ 134 ∧ a ≠ 130) ∨ (a = 130 ∧ k < i)
def S3 (i : Nat) : Nat → Nat → Prop := fun a k => (126 ≤ a ∧ a ≤ 134) ∨ (143 ≤ a ∧ a ≤ 145 ∧ k < i)
def S4 (i : Nat) : Nat → Nat → Prop := fun a k => (126 ≤ a ∧ a ≤ 145) ∨ (146 ≤ a ∧ a ≤ 147 ∧ k < i)
def S5 (i : Nat) : Nat → Nat → Prop := fun a k => (126 ≤ a ∧ a ≤ 147) ∨ (148 ≤ a ∧ a ≤ 149 ∧ k < i)
theorem m_keep5 {x : Nat} (hx : x = 151 ∨ x = 152) {σ0 : mS} (hQ : ∀ σ', KP x σ0 (fun _ _ => True) σ' → Q none σ') : ∀ (m i : Nat) (σ : mS), i + m = 8 → KP x σ0 (S5 i) σ → WP X d (0, 0) MX11_keep 222 [(0, vP (some 125)), (1, vP (some x)), (2, vI (i : Int))] [] σ Q := by
  intro m
  induction m with
  | zero =>
    intro i σ hi hK
    refine C_X11_keep_222 hK.2.1.1 hx ⟨by omega, fun _ => hQ _ (KP.mono (((((((hK.st (b := 125) (j := 0) rfl rfl (by unfold vp; omega)).st (b := 125) (j := 6) rfl rfl (by unfold vp; omega)).st (b := 125) (j := 11) rfl rfl (by unfold vp; omega)).st (b := 125) (j := 28) rfl rfl (by unfold vp; omega)).st (b := 125) (j := 32) rfl rfl (by unfold vp; omega)).st (b := 125) (j := 35) rfl rfl (by unfold vp; omega)).st (b := 125) (j := 19) rfl rfl (by unfold vp; omega)) ?_), fun h => absurd h (by omega)⟩
    intro a k hp _
    unfold SU S5
    unfold vp at hp
    omega
  | succ m ih =>
    intro i σ hi hK
    have hK2 := ((hK.st (b := 148) (j := i) (show _ = im 148 i by show ((107 + (i : Int)).toNat : Nat) = 107 + i; omega) (show ((i : Int)).toNat = i by omega) (by unfold vp; omega)).st (b := 149) (j := i) (show _ = im 149 i by show ((115 + (i : Int)).toNat : Nat) = 115 + i; omega) (show ((i : Int)).toNat = i by omega) (by unfold vp; omega))
    have ih2 := ih (i + 1) _ (by omega) (hK2.mono (S' := S5 (i + 1)) (by
      intro a k hp hq
      unfold SU S5
      unfold S5 at hq
      omega))
    rw [show ((i + 1 : Nat) : Int) = (i : Int) + 1 by omega] at ih2
    refine C_X11_keep_222 hK.2.1.1 hx ⟨by omega, fun h => absurd h (by omega), fun _ => ?_⟩
    repeat' first | exact ih2 | refine ⟨by omega, ?_⟩
theorem m_keep4 {x : Nat} (hx : x = 151 ∨ x = 152) {σ0 : mS} (hQ : ∀ σ', KP x σ0 (fun _ _ => True) σ' → Q none σ') : ∀ (m i : Nat) (σ : mS), i + m = 10 → KP x σ0 (S4 i) σ → WP X d (0, 0) MX11_keep 184 [(0, vP (some 125)), (1, vP (some x)), (2, vI (i : Int))] [] σ Q := by
  intro m
  induction m with
  | zero =>
    intro i σ hi hK
    refine C_X11_keep_184 hK.2.1.1 hx ⟨by omega, fun _ => m_keep5 hx hQ _ 0 σ (Nat.zero_add _) (hK.mono ?_), fun h => absurd h (by omega)⟩
    intro a k hp hq
    unfold S5 at hq
    unfold S4
    unfold vp at hp
    omega
  | succ m ih =>
    intro i σ hi hK
    have hK2 := ((hK.st (b := 146) (j := i) (show _ = im 146 i by show ((87 + (i : Int)).toNat : Nat) = 87 + i; omega) (show ((i : Int)).toNat = i by omega) (by unfold vp; omega)).st (b := 147) (j := i) (show _ = im 147 i by show ((97 + (i : Int)).toNat : Nat) = 97 + i; omega) (show ((i : Int)).toNat = i by omega) (by unfold vp; omega))
    have ih2 := ih (i + 1) _ (by omega) (hK2.mono (S' := S4 (i + 1)) (by
      intro a k hp hq
      unfold SU S4
      unfold S4 at hq
      omega))
    rw [show ((i + 1 : Nat) : Int) = (i : Int) + 1 by omega] at ih2
    refine C_X11_keep_184 hK.2.1.1 hx ⟨by omega, fun h => absurd h (by omega), fun _ => ?_⟩
    repeat' first | exact ih2 | refine ⟨by omega, ?_⟩
theorem m_keep3 {x : Nat} (hx : x = 151 ∨ x = 152) {σ0 : mS} (hQ : ∀ σ', KP x σ0 (fun _ _ => True) σ' → Q none σ') : ∀ (m i : Nat) (σ : mS), i + m = 5 → KP x σ0 (S3 i) σ → WP X d (0, 0) MX11_keep 135 [(0, vP (some 125)), (1, vP (some x)), (2, vI (i : Int))] [] σ Q := by
  intro m
  induction m with
  | zero =>
    intro i σ hi hK
    refine C_X11_keep_135 hK.2.1.1 hx ⟨by omega, fun _ => m_keep4 hx hQ _ 0 σ (Nat.zero_add _) (hK.mono ?_), fun h => absurd h (by omega)⟩
    intro a k hp hq
    unfold S4 at hq
    unfold S3
    unfold vp at hp
    omega
  | succ m ih =>
    intro i σ hi hK
    have hK2 := (((hK.st (b := 143) (j := i) (show _ = im 143 i by show ((72 + (i : Int)).toNat : Nat) = 72 + i; omega) (show ((i : Int)).toNat = i by omega) (by unfold vp; omega)).st (b := 144) (j := i) (show _ = im 144 i by show ((77 + (i : Int)).toNat : Nat) = 77 + i; omega) (show ((i : Int)).toNat = i by omega) (by unfold vp; omega)).st (b := 145) (j := i) (show _ = im 145 i by show ((82 + (i : Int)).toNat : Nat) = 82 + i; omega) (show ((i : Int)).toNat = i by omega) (by unfold vp; omega))
    have ih2 := ih (i + 1) _ (by omega) (hK2.mono (S' := S3 (i + 1)) (by
      intro a k hp hq
      unfold SU S3
      unfold S3 at hq
      omega))
    rw [show ((i + 1 : Nat) : Int) = (i : Int) + 1 by omega] at ih2
    refine C_X11_keep_135 hK.2.1.1 hx ⟨by omega, fun h => absurd h (by omega), fun _ => ?_⟩
    repeat' first | exact ih2 | refine ⟨by omega, ?_⟩
theorem m_keep2 {x : Nat} (hx : x = 151 ∨ x = 152) {σ0 : mS} (hQ : ∀ σ', KP x σ0 (fun _ _ => True) σ' → Q none σ') : ∀ (m i : Nat) (σ : mS), i + m = 24 → KP x σ0 (S2 i) σ → WP X d (0, 0) MX11_keep 109 [(0, vP (some 125)), (1, vP (some x)), (2, vI (i : Int))] [] σ Q := by
  intro m
  induction m with
  | zero =>
    intro i σ hi hK
    refine C_X11_keep_109 hK.2.1.1 hx ⟨by omega, fun _ => m_keep3 hx hQ _ 0 σ (Nat.zero_add _) (hK.mono ?_), fun h => absurd h (by omega)⟩
    intro a k hp hq
    unfold S3 at hq
    unfold S2
    unfold vp at hp
    omega
  | succ m ih =>
    intro i σ hi hK
    have hK2 := (hK.st (b := 130) (j := i) (show _ = im 130 i by show ((48 + (i : Int)).toNat : Nat) = 48 + i; omega) (show ((i : Int)).toNat = i by omega) (by unfold vp; omega))
    have ih2 := ih (i + 1) _ (by omega) (hK2.mono (S' := S2 (i + 1)) (by
      intro a k hp hq
      unfold SU S2
      unfold S2 at hq
      omega))
    rw [show ((i + 1 : Nat) : Int) = (i : Int) + 1 by omega] at ih2
    refine C_X11_keep_109 hK.2.1.1 hx ⟨by omega, fun h => absurd h (by omega), fun _ => ?_⟩
    repeat' first | exact ih2 | refine ⟨by omega, ?_⟩
theorem m_keep1 {x : Nat} (hx : x = 151 ∨ x = 152) {σ0 : mS} (hQ : ∀ σ', KP x σ0 (fun _ _ => True) σ' → Q none σ') : ∀ (m i : Nat) (σ : mS), i + m = 6 → KP x σ0 (S1 i) σ → WP X d (0, 0) MX11_keep 2 [(0, vP (some 125)), (1, vP (some x)), (2, vI (i : Int))] [] σ Q := by
  intro m
  induction m with
  | zero =>
    intro i σ hi hK
    refine C_X11_keep_2 hK.2.1.1 hx ⟨by omega, fun _ => m_keep2 hx hQ _ 0 σ (Nat.zero_add _) (hK.mono ?_), fun h => absurd h (by omega)⟩
    intro a k hp hq
    unfold S2 at hq
    unfold S1
    unfold vp at hp
    omega
  | succ m ih =>
    intro i σ hi hK
    have hK2 := ((((((((hK.st (b := 126) (j := i) (show _ = im 126 i by show (((i : Int)).toNat : Nat) = i; omega) (show ((i : Int)).toNat = i by omega) (by unfold vp; omega)).st (b := 127) (j := i) (show _ = im 127 i by show ((6 + (i : Int)).toNat : Nat) = 6 + i; omega) (show ((i : Int)).toNat = i by omega) (by unfold vp; omega)).st (b := 128) (j := i) (show _ = im 128 i by show ((12 + (i : Int)).toNat : Nat) = 12 + i; omega) (show ((i : Int)).toNat = i by omega) (by unfold vp; omega)).st (b := 129) (j := i) (show _ = im 129 i by show ((18 + (i : Int)).toNat : Nat) = 18 + i; omega) (show ((i : Int)).toNat = i by omega) (by unfold vp; omega)).st (b := 131) (j := i) (show _ = im 131 i by show ((24 + (i : Int)).toNat : Nat) = 24 + i; omega) (show ((i : Int)).toNat = i by omega) (by unfold vp; omega)).st (b := 132) (j := i) (show _ = im 132 i by show ((30 + (i : Int)).toNat : Nat) = 30 + i; omega) (show ((i : Int)).toNat = i by omega) (by unfold vp; omega)).st (b := 133) (j := i) (show _ = im 133 i by show ((36 + (i : Int)).toNat : Nat) = 36 + i; omega) (show ((i : Int)).toNat = i by omega) (by unfold vp; omega)).st (b := 134) (j := i) (show _ = im 134 i by show ((42 + (i : Int)).toNat : Nat) = 42 + i; omega) (show ((i : Int)).toNat = i by omega) (by unfold vp; omega))
    have ih2 := ih (i + 1) _ (by omega) (hK2.mono (S' := S1 (i + 1)) (by
      intro a k hp hq
      unfold SU S1
      unfold S1 at hq
      omega))
    rw [show ((i + 1 : Nat) : Int) = (i : Int) + 1 by omega] at ih2
    refine C_X11_keep_2 hK.2.1.1 hx ⟨by omega, fun h => absurd h (by omega), fun _ => ?_⟩
    repeat' first | exact ih2 | refine ⟨by omega, ?_⟩
theorem m_keep (hs : Sh σ) {x : Nat} (hx : x = 151 ∨ x = 152) (hQ : ∀ σ', KP x σ (fun _ _ => True) σ' → Q none σ') : CALL X d (0, 0) MX11_keep [vP (some 125), vP (some x)] σ Q :=
  C_X11_keep hs hx (m_keep1 hx hQ 6 0 σ rfl ⟨hx, Agk.rf hs, fun a k _ hq => by unfold S1 at hq; omega⟩)
theorem m_again5 {x : Nat} (hx : x = 151 ∨ x = 152) {σ0 : mS} (hQ : ∀ σ', AP x σ0 (fun _ _ => True) σ' → Q none σ') : ∀ (m i : Nat) (σ : mS), i + m = 8 → AP x σ0 (S5 i) σ → WP X d (0, 0) MX11_again 222 [(0, vP (some 125)), (1, vP (some x)), (2, vI (i : Int))] [] σ Q := by
  intro m
  induction m with
  | zero =>
    intro i σ hi hK
    refine C_X11_again_222 hK.2.1.1 hx ⟨by omega, fun _ => hQ _ (AP.mono (((((((hK.st (b := 125) (j := 0) rfl rfl (by unfold vp; omega)).st (b := 125) (j := 6) rfl rfl (by unfold vp; omega)).st (b := 125) (j := 11) rfl rfl (by unfold vp; omega)).st (b := 125) (j := 28) rfl rfl (by unfold vp; omega)).st (b := 125) (j := 32) rfl rfl (by unfold vp; omega)).st (b := 125) (j := 35) rfl rfl (by unfold vp; omega)).st (b := 125) (j := 19) rfl rfl (by unfold vp; omega)) ?_), fun h => absurd h (by omega)⟩
    intro a k hp _
    unfold SU S5
    unfold vp at hp
    omega
  | succ m ih =>
    intro i σ hi hK
    have hK2 := ((hK.st (b := 148) (j := i) (show _ = im 148 i by show ((107 + (i : Int)).toNat : Nat) = 107 + i; omega) (show ((i : Int)).toNat = i by omega) (by unfold vp; omega)).st (b := 149) (j := i) (show _ = im 149 i by show ((115 + (i : Int)).toNat : Nat) = 115 + i; omega) (show ((i : Int)).toNat = i by omega) (by unfold vp; omega))
    have ih2 := ih (i + 1) _ (by omega) (hK2.mono (S' := S5 (i + 1)) (by
      intro a k hp hq
      unfold SU S5
      unfold S5 at hq
      omega))
    rw [show ((i + 1 : Nat) : Int) = (i : Int) + 1 by omega] at ih2
    refine C_X11_again_222 hK.2.1.1 hx ⟨by omega, fun h => absurd h (by omega), fun _ => ?_⟩
    repeat' first | exact ih2 | refine ⟨by omega, ?_⟩
theorem m_again4 {x : Nat} (hx : x = 151 ∨ x = 152) {σ0 : mS} (hQ : ∀ σ', AP x σ0 (fun _ _ => True) σ' → Q none σ') : ∀ (m i : Nat) (σ : mS), i + m = 10 → AP x σ0 (S4 i) σ → WP X d (0, 0) MX11_again 184 [(0, vP (some 125)), (1, vP (some x)), (2, vI (i : Int))] [] σ Q := by
  intro m
  induction m with
  | zero =>
    intro i σ hi hK
    refine C_X11_again_184 hK.2.1.1 hx ⟨by omega, fun _ => m_again5 hx hQ _ 0 σ (Nat.zero_add _) (hK.mono ?_), fun h => absurd h (by omega)⟩
    intro a k hp hq
    unfold S5 at hq
    unfold S4
    unfold vp at hp
    omega
  | succ m ih =>
    intro i σ hi hK
    have hK2 := ((hK.st (b := 146) (j := i) (show _ = im 146 i by show ((87 + (i : Int)).toNat : Nat) = 87 + i; omega) (show ((i : Int)).toNat = i by omega) (by unfold vp; omega)).st (b := 147) (j := i) (show _ = im 147 i by show ((97 + (i : Int)).toNat : Nat) = 97 + i; omega) (show ((i : Int)).toNat = i by omega) (by unfold vp; omega))
    have ih2 := ih (i + 1) _ (by omega) (hK2.mono (S' := S4 (i + 1)) (by
      intro a k hp hq
      unfold SU S4
      unfold S4 at hq
      omega))
    rw [show ((i + 1 : Nat) : Int) = (i : Int) + 1 by omega] at ih2
    refine C_X11_again_184 hK.2.1.1 hx ⟨by omega, fun h => absurd h (by omega), fun _ => ?_⟩
    repeat' first | exact ih2 | refine ⟨by omega, ?_⟩
theorem m_again3 {x : Nat} (hx : x = 151 ∨ x = 152) {σ0 : mS} (hQ : ∀ σ', AP x σ0 (fun _ _ => True) σ' → Q none σ') : ∀ (m i : Nat) (σ : mS), i + m = 5 → AP x σ0 (S3 i) σ → WP X d (0, 0) MX11_again 135 [(0, vP (some 125)), (1, vP (some x)), (2, vI (i : Int))] [] σ Q := by
  intro m
  induction m with
  | zero =>
    intro i σ hi hK
    refine C_X11_again_135 hK.2.1.1 hx ⟨by omega, fun _ => m_again4 hx hQ _ 0 σ (Nat.zero_add _) (hK.mono ?_), fun h => absurd h (by omega)⟩
    intro a k hp hq
    unfold S4 at hq
    unfold S3
    unfold vp at hp
    omega
  | succ m ih =>
    intro i σ hi hK
    have hK2 := (((hK.st (b := 143) (j := i) (show _ = im 143 i by show ((72 + (i : Int)).toNat : Nat) = 72 + i; omega) (show ((i : Int)).toNat = i by omega) (by unfold vp; omega)).st (b := 144) (j := i) (show _ = im 144 i by show ((77 + (i : Int)).toNat : Nat) = 77 + i; omega) (show ((i : Int)).toNat = i by omega) (by unfold vp; omega)).st (b := 145) (j := i) (show _ = im 145 i by show ((82 + (i : Int)).toNat : Nat) = 82 + i; omega) (show ((i : Int)).toNat = i by omega) (by unfold vp; omega))
    have ih2 := ih (i + 1) _ (by omega) (hK2.mono (S' := S3 (i + 1)) (by
      intro a k hp hq
      unfold SU S3
      unfold S3 at hq
      omega))
    rw [show ((i + 1 : Nat) : Int) = (i : Int) + 1 by omega] at ih2
    refine C_X11_again_135 hK.2.1.1 hx ⟨by omega, fun h => absurd h (by omega), fun _ => ?_⟩
    repeat' first | exact ih2 | refine ⟨by omega, ?_⟩
theorem m_again2 {x : Nat} (hx : x = 151 ∨ x = 152) {σ0 : mS} (hQ : ∀ σ', AP x σ0 (fun _ _ => True) σ' → Q none σ') : ∀ (m i : Nat) (σ : mS), i + m = 24 → AP x σ0 (S2 i) σ → WP X d (0, 0) MX11_again 109 [(0, vP (some 125)), (1, vP (some x)), (2, vI (i : Int))] [] σ Q := by
  intro m
  induction m with
  | zero =>
    intro i σ hi hK
    refine C_X11_again_109 hK.2.1.1 hx ⟨by omega, fun _ => m_again3 hx hQ _ 0 σ (Nat.zero_add _) (hK.mono ?_), fun h => absurd h (by omega)⟩
    intro a k hp hq
    unfold S3 at hq
    unfold S2
    unfold vp at hp
    omega
  | succ m ih =>
    intro i σ hi hK
    have hK2 := (hK.st (b := 130) (j := i) (show _ = im 130 i by show ((48 + (i : Int)).toNat : Nat) = 48 + i; omega) (show ((i : Int)).toNat = i by omega) (by unfold vp; omega))
    have ih2 := ih (i + 1) _ (by omega) (hK2.mono (S' := S2 (i + 1)) (by
      intro a k hp hq
      unfold SU S2
      unfold S2 at hq
      omega))
    rw [show ((i + 1 : Nat) : Int) = (i : Int) + 1 by omega] at ih2
    refine C_X11_again_109 hK.2.1.1 hx ⟨by omega, fun h => absurd h (by omega), fun _ => ?_⟩
    repeat' first | exact ih2 | refine ⟨by omega, ?_⟩
theorem m_again1 {x : Nat} (hx : x = 151 ∨ x = 152) {σ0 : mS} (hQ : ∀ σ', AP x σ0 (fun _ _ => True) σ' → Q none σ') : ∀ (m i : Nat) (σ : mS), i + m = 6 → AP x σ0 (S1 i) σ → WP X d (0, 0) MX11_again 2 [(0, vP (some 125)), (1, vP (some x)), (2, vI (i : Int))] [] σ Q := by
  intro m
  induction m with
  | zero =>
    intro i σ hi hK
    refine C_X11_again_2 hK.2.1.1 hx ⟨by omega, fun _ => m_again2 hx hQ _ 0 σ (Nat.zero_add _) (hK.mono ?_), fun h => absurd h (by omega)⟩
    intro a k hp hq
    unfold S2 at hq
    unfold S1
    unfold vp at hp
    omega
  | succ m ih =>
    intro i σ hi hK
    have hK2 := ((((((((hK.st (b := 126) (j := i) (show _ = im 126 i by show (((i : Int)).toNat : Nat) = i; omega) (show ((i : Int)).toNat = i by omega) (by unfold vp; omega)).st (b := 127) (j := i) (show _ = im 127 i by show ((6 + (i : Int)).toNat : Nat) = 6 + i; omega) (show ((i : Int)).toNat = i by omega) (by unfold vp; omega)).st (b := 128) (j := i) (show _ = im 128 i by show ((12 + (i : Int)).toNat : Nat) = 12 + i; omega) (show ((i : Int)).toNat = i by omega) (by unfold vp; omega)).st (b := 129) (j := i) (show _ = im 129 i by show ((18 + (i : Int)).toNat : Nat) = 18 + i; omega) (show ((i : Int)).toNat = i by omega) (by unfold vp; omega)).st (b := 131) (j := i) (show _ = im 131 i by show ((24 + (i : Int)).toNat : Nat) = 24 + i; omega) (show ((i : Int)).toNat = i by omega) (by unfold vp; omega)).st (b := 132) (j := i) (show _ = im 132 i by show ((30 + (i : Int)).toNat : Nat) = 30 + i; omega) (show ((i : Int)).toNat = i by omega) (by unfold vp; omega)).st (b := 133) (j := i) (show _ = im 133 i by show ((36 + (i : Int)).toNat : Nat) = 36 + i; omega) (show ((i : Int)).toNat = i by omega) (by unfold vp; omega)).st (b := 134) (j := i) (show _ = im 134 i by show ((42 + (i : Int)).toNat : Nat) = 42 + i; omega) (show ((i : Int)).toNat = i by omega) (by unfold vp; omega))
    have ih2 := ih (i + 1) _ (by omega) (hK2.mono (S' := S1 (i + 1)) (by
      intro a k hp hq
      unfold SU S1
      unfold S1 at hq
      omega))
    rw [show ((i + 1 : Nat) : Int) = (i : Int) + 1 by omega] at ih2
    refine C_X11_again_2 hK.2.1.1 hx ⟨by omega, fun h => absurd h (by omega), fun _ => ?_⟩
    repeat' first | exact ih2 | refine ⟨by omega, ?_⟩
theorem m_again (hs : Sh σ) {x : Nat} (hx : x = 151 ∨ x = 152) (hQ : ∀ σ', AP x σ (fun _ _ => True) σ' → Q none σ') : CALL X d (0, 0) MX11_again [vP (some 125), vP (some x)] σ Q :=
  C_X11_again hs hx (m_again1 hx hQ 6 0 σ rfl ⟨hx, Agk.rf hs, fun a k _ hq => by unfold S1 at hq; omega⟩)
end KEEPS
