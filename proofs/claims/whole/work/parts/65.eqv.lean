/-! yards that say the same; what scratch cells are; keep, run, take again -/
section EQVS
variable {X : mX} {d : Nat} {σ : mS} {Q : Option mV → mS → Prop} {y : Nat} {B : List mCl}
def EY (Y Y' : mY) : Prop := ∀ a k, FYm a k → Y' a k = Y a k
theorem EY.rf (Y : mY) : EY Y Y := fun _ _ _ => rfl
theorem EY.sy {Y Y' : mY} (h : EY Y Y') : EY Y' Y := fun a k q => (h a k q).symm
theorem EY.tr {Y Y' Y'' : mY} (h : EY Y Y') (h' : EY Y' Y'') : EY Y Y'' := fun a k q => (h' a k q).trans (h a k q)
theorem EY.a {Y Y' : mY} (h : EY Y Y') {a k : Nat} (ha : (126 ≤ a ∧ a ≤ 134) ∨ (143 ≤ a ∧ a ≤ 149)) : Y' a k = Y a k := h a k (by unfold FYm; omega)
theorem EY.c {Y Y' : mY} (h : EY Y Y') {k : Nat} (hk : k = 0 ∨ k = 6 ∨ k = 11 ∨ k = 18 ∨ k = 19 ∨ k = 28 ∨ k = 32 ∨ k = 35) : Y' 125 k = Y 125 k := h 125 k (by unfold FYm; omega)
theorem EY.mU {Y Y' : mY} (h : EY Y Y') (b j : Nat) (z : Int) : EY (mU Y b j z) (mU Y' b j z) := fun a k q => by
  rw [mUs, mUs, h a k q]
theorem putY_e {Y Y' : mY} (h : EY Y Y') (q p : Nat) : EY (putY B Y q p) (putY B Y' q p) := by
  have e : ansY B Y' p (Y 131 q).toNat = ansY B Y p (Y 131 q).toNat := ansY_cg (h.a (by decide)) (h.a (by decide)) (h.c (by decide)) (fun k => h.a (by decide)) (h.a (by decide)) (h.a (by decide))
  unfold putY
  rw [h.a (a := 131) (by decide), h.a (a := 128) (by decide), h.a (a := 129) (by decide), e]
  split
  · exact (h.mU _ _ _).mU _ _ _
  · exact (h.mU _ _ _).mU _ _ _
theorem askY_e {Y Y' : mY} (h : EY Y Y') (q : Nat) (x : Int) : EY (askY B Y q x) (askY B Y' q x) := by
  unfold askY
  rw [h.a (a := 133) (by decide), h.c (k := 0) (by decide)]
  split
  · exact putY_e h _ _
  · exact h
theorem hourQ_e : ∀ (m q : Nat) {Y Y' : mY}, EY Y Y' → EY (hourQ B m q Y) (hourQ B m q Y')
  | 0, _, _, _, h => h
  | m + 1, q, Y, Y', h => by
    simp only [hourQ]
    rw [h.a (a := 134) (by decide)]
    exact hourQ_e m (q + 1) (askY_e h _ _)
theorem hourP_e (r : Int) : ∀ (m p : Nat) {Y Y' : mY}, EY Y Y' → EY (hourP r m p Y) (hourP r m p Y')
  | 0, _, _, _, h => h
  | m + 1, p, Y, Y', h => by
    simp only [hourP]
    rw [h.a (a := 129) (by decide)]
    exact hourP_e r m (p + 1) (h.mU _ _ _)
theorem hourY_e {Y Y' : mY} (h : EY Y Y') : EY (hourY B Y) (hourY B Y') := by
  unfold hourY
  rw [h.c (k := 0) (by decide), h.c (k := 6) (by decide), h.c (k := 11) (by decide)]
  exact (hourP_e _ _ _ (hourQ_e _ _ h)).mU _ _ _
theorem hoursY_e : ∀ (n : Nat) {Y Y' : mY}, EY Y Y' → EY (hoursY B n Y) (hoursY B n Y')
  | 0, _, _, h => h
  | n + 1, _, _, h => hoursY_e n (hourY_e h)
theorem thr_e {Y Y' : mY} (h : EY Y Y') : ∀ m q, thr Y' m q = thr Y m q
  | 0, _ => rfl
  | m + 1, q => by
    simp only [thr]
    rw [h.a (a := 133) (by decide), h.a (a := 132) (by decide), thr_e h m (q + 1)]
theorem soF_e {Y Y' : mY} (h : EY Y Y') (s : Int) : soF Y' s = soF Y s := by
  funext q
  unfold soF
  rw [h.a (a := 133) (by decide)]
/-- cells and places that nothing between two calls hangs on -/
def DS : Nat → Nat → Prop := fun a k => a = 82 ∨ (87 ≤ a ∧ a ≤ 102 ∧ a % 3 = 0) ∨ FYx 55 a k ∨ (103 ≤ a ∧ a ≤ 107) ∨ a = 142 ∨ (152 ≤ a ∧ a ≤ 154) ∨ (a = 125 ∧ k = 45)
theorem DS_ok : okD DS := fun a k h => by unfold DS FYx at h; omega
theorem DS_m : ∀ a k, DS a k → ¬ FYm a k := fun a k h => by unfold DS FYx at h; unfold FYm; omega
def DW : Nat → Nat → Prop := fun a k => DS a k ∨ DY a k
theorem Inv.dw {σ' : mS} (hi : Inv σ) (ha : Agk DW σ σ') (hY : InvY σ') : Inv σ' :=
  ⟨ha.1, hY, hi.2.2.1.fr ha (fun a k h => by unfold FYx; unfold DW DS DY FYx FYm at h; omega), hi.2.2.2.1.fr ha (fun a k h => by unfold DW DS DY FYx FYm at h; omega), hi.2.2.2.2.1.fr ha (fun a k h => by unfold DW DS DY FYx FYm at h; omega), hi.2.2.2.2.2.1.fr ha (fun a k h => by unfold DW DS DY FYx FYm at h; omega), hi.2.2.2.2.2.2.fr ha (fun a k h => by unfold DW DS DY FYx FYm at h; omega)⟩
theorem Inv.ds {σ' : mS} (hi : Inv σ) (ha : Agk DS σ σ') : Inv σ' :=
  hi.dw (ha.mono (fun _ _ q => Or.inl q)) (hi.2.1.fr ha (fun a k q => ⟨DS_m a k q, by unfold DS FYx at q; unfold FYx; omega⟩))
theorem DX1_W : ∀ a k, DX 1 a k → DW a k := fun a k h => by
  rcases h with h | h
  · exact Or.inl (Or.inr (Or.inl h))
  · exact Or.inr (Or.inl h)
theorem DM_W : ∀ a k, DM a k → DW a k := fun a k h => by
  rcases h with h | h
  · exact Or.inl (by unfold DS; omega)
  · exact Or.inr (Or.inr ⟨vp_F h, by unfold vp at h; omega⟩)
theorem DX55_S : ∀ a k, DX 55 a k → DS a k := fun a k h => by
  rcases h with h | h
  · exact Or.inr (Or.inl h)
  · exact Or.inr (Or.inr (Or.inl h))
/-- a run of the rules on the yard that stands, on both sides -/
theorem Inv.step {σ1 σ2 : mS} {Y' : mY} (hi : Inv σ) (h1 : Agk (DX 1) σ σ1) (hx : YB σ1 1 Y' B) (h2 : Agk DM σ1 σ2) (hm : ∀ a k, FYm a k → ¬ (a = 125 ∧ k = 18) → σ2.2.1 a k = Y' a k) (h11 : Y' 125 11 ≤ 9999) : Inv σ2 := by
  have e18 : σ2.2.1 125 18 = σ1.2.1 125 18 := h2.2.2 _ _ (fun q => (DM_ok _ _ q).2.2.1 ⟨rfl, Or.inl rfl⟩)
  refine hi.dw (h1.tr h2 DX1_W DM_W) ⟨?_, ?_, ?_⟩
  · refine hx.2.2.1.cg' (fun a k q => h2.2.2 a k (fun q' => ?_)) (fun a k q q' => hm a k q (by omega))
    unfold FYx at q
    unfold DM vp at q'
    omega
  · rw [e18]
    exact hx.2.2.2.1.cg' (fun a k q q' => hm a k q (by omega))
  · rw [hm 125 11 (by unfold FYm; omega) (by omega)]
    exact h11
/-- kept, run, taken again: nothing has changed but scratch -/
theorem runBack {σ1 σ2 σ3 σ4 : mS} (h1 : KP 152 σ1 (fun _ _ => True) σ2) (h2 : Agk DM σ2 σ3) (h3 : AP 152 σ3 (fun _ _ => True) σ4) : Agk DS σ1 σ4 := by
  refine ⟨h3.2.1.1, (h3.2.1.2.1.trans h2.2.1).trans h1.2.1.2.1, fun a k hn => ?_⟩
  have n155 : a ≠ 142 := fun e => hn (by unfold DS; omega)
  have n165 : a ≠ 152 := fun e => hn (by unfold DS; omega)
  by_cases hv : vp a k
  · rw [h3.2.2 a k hv trivial, h2.2.2 152 _ (fun q => by unfold DM vp at q; omega), h1.2.2 a k hv trivial]
  · rw [h3.2.1.2.2 a k hv, h2.2.2 a k (fun q => by rcases q with q | q; exact n155 q; exact hv q), h1.2.1.2.2 a k n165]
theorem KP.mb {σ2 : mS} (h : MB σ B) (hk : KP 152 σ (fun _ _ => True) σ2) : MB σ2 B :=
  h.fr hk.2.1 (fun a k q => by omega) (fun a k q => by unfold FYm; omega)
theorem KP.ey {σ2 : mS} (hk : KP 152 σ (fun _ _ => True) σ2) : EY σ.2.1 σ2.2.1 := fun a k q => hk.2.1.2.2 a k (by unfold FYm at q; omega)
theorem Agk.ey {σ' : mS} {D : Nat → Nat → Prop} (ha : Agk D σ σ') (h : ∀ a k, D a k → ¬ FYm a k) : EY σ.2.1 σ'.2.1 := fun a k q => ha.2.2 a k (fun q' => h a k q' q)
theorem MS.ey {Y : mY} (h : MS σ Y B) : EY Y σ.2.1 := fun a k q => h.2.2 a k (by unfold FYm at q; omega)
end EQVS
