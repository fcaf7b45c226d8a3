/-! ACTS and THE TRACE -/
section ACTS
variable {X : mX} {d : Nat} {σ : mS} {Q : Option mV → mS → Prop}
theorem CALL.nrm {b : Nat × Nat} {M : mM} {As : List mV} {Q' : Option mV → mS → Prop} (k : CALL X d b M As σ Q') (h : ∀ v σ', Q' v σ' → ∃ z : Int, v = some (vI z) ∧ Q (some (vI (wI z))) σ') : CALL X d b M As σ Q := by
  intro g lau p e ha hc hk s m args below hf happ hheap hP
  obtain ⟨t, o, a1, a2, a3, ⟨a4, a5⟩⟩ := k g lau p e ha hc hk s m args below hf happ hheap hP
  obtain ⟨v, σ', w1, w2, w3⟩ := a4
  obtain ⟨z, rfl, w4⟩ := h v σ' w2
  refine ⟨t, o, a1, a2, a3, ⟨some (vI (wI z)), σ', ?_, w4, w3⟩, a5⟩
  rw [w1]
  simp only [Option.map_some, rv, wI, Int32.ofInt_toInt]
/-- bodies noted behind n others -/
def trP (n : Int) (f : Nat → Int) : List Int → Nat → Int
  | [] => f
  | b :: bs => trP (n + 1) (if n < 20 then fun j => if j = n.toNat then b else f j else f) bs
theorem trP_app : ∀ (bs cs : List Int) (n : Int) (f : Nat → Int), trP n f (bs ++ cs) = trP (n + bs.length) (trP n f bs) cs
  | [], cs, n, f => by simp [trP]
  | b :: bs, cs, n, f => by
    simp only [List.cons_append, trP, trP_app bs cs, List.length_cons]
    rw [show n + 1 + (bs.length : Int) = n + ((bs.length + 1 : Nat) : Int) by omega]
theorem trP_eq : ∀ (bs : List Int) (n : Int) (f f' : Nat → Int), 0 ≤ n → (∀ i : Nat, i < 20 → (i : Int) < n → f i = f' i) → ∀ i : Nat, i < 20 → (i : Int) < n + bs.length → trP n f bs i = trP n f' bs i
  | [], n, f, f', h0, h, i, hi, hl => h i hi (by simpa using hl)
  | b :: bs, n, f, f', h0, h, i, hi, hl => by
    simp only [trP]
    refine trP_eq bs (n + 1) _ _ (by omega) (fun j hj hn => ?_) i hi (by simp only [List.length_cons] at hl; omega)
    split
    · by_cases hz : j = n.toNat
      · simp [hz]
      · simp only [if_neg hz]
        exact h j hj (by omega)
    · exact h j hj (by omega)
def Pushed (a k t : Nat) (bs : List Int) (σ σ' : mS) : Prop :=
  Sh σ' ∧ (∀ b j, b ≠ t → ¬ (b = a ∧ j = k) → σ'.2.1 b j = σ.2.1 b j) ∧ σ'.2.2.1 = σ.2.2.1 ∧ σ'.2.1 a k = σ.2.1 a k + bs.length ∧ ∀ j, σ'.2.1 t j = trP (σ.2.1 a k) (σ.2.1 t) bs j
theorem Pushed.tr {a k t : Nat} {bs cs : List Int} {σ σ1 σ2 : mS} (h1 : Pushed a k t bs σ σ1) (h2 : Pushed a k t cs σ1 σ2) : Pushed a k t (bs ++ cs) σ σ2 := by
  refine ⟨h2.1, fun b j p q => (h2.2.1 b j p q).trans (h1.2.1 b j p q), h2.2.2.1.trans h1.2.2.1, ?_, fun j => ?_⟩
  · rw [h2.2.2.2.1, h1.2.2.2.1, List.length_append]
    omega
  · rw [h2.2.2.2.2 j, h1.2.2.2.1, trP_app, show σ1.2.1 t = trP (σ.2.1 a k) (σ.2.1 t) bs from funext h1.2.2.2.2]
theorem c_note (hs : Sh σ) {b : Int} (hb : -2147483648 ≤ b ∧ b ≤ 2147483647) (hn : 0 ≤ σ.2.1 110 1 ∧ σ.2.1 110 1 ≤ 1000) (hQ : ∀ σ', Pushed 110 1 111 [b] σ σ' → Q none σ') : CALL X d (0, 0) MX0_note [vP (some 110), vI b] σ Q := by
  refine C_X0_note hs ⟨fun h => ⟨by omega, hQ _ ⟨sh_I hs (by omega) (hs.k (a := 110) rfl) (Or.inl (by decide)), fun c j h1 h2 => ?_, rfl, ?_, fun j => ?_⟩⟩, fun h => ⟨by omega, by omega, hb, ?_, hQ _ ⟨?_, fun c j h1 h2 => ?_, rfl, ?_, fun j => ?_⟩⟩⟩
  · rw [sI_at, if_neg h2]
  · rw [sI_at]; simp
  · rw [sI_at, if_neg (by omega)]; simp only [trP]; rw [if_neg (by omega)]
  · rw [sI_at, if_neg (by omega)]; omega
  · have h2 := sh_I hs hb (hs.k (a := 111) (kd := (50, 20)) rfl) (k := (σ.2.1 110 1).toNat) (Or.inl (by decide))
    exact sh_I h2 (by rw [sI_at, if_neg (by omega)]; omega) (h2.k (a := 110) rfl) (Or.inl (by decide))
  · rw [sI_at, if_neg h2, sI_at, if_neg (by omega)]
  · rw [sI_at, if_pos ⟨rfl, rfl⟩, sI_at, if_neg (by omega)]; simp
  · rw [sI_at, if_neg (by omega), sI_at]; simp only [trP]; rw [if_pos (show _ < (20 : Int) by omega)]; simp
theorem c_ran (hs : Sh σ) {b : Int} (hb : -2147483648 ≤ b ∧ b ≤ 2147483647) (hn : 0 ≤ σ.2.1 125 38 ∧ σ.2.1 125 38 ≤ 1000) (hQ : ∀ σ', Pushed 125 38 150 [b] σ σ' → Q none σ') : CALL X d (0, 0) MX11_ran [vP (some 125), vI b] σ Q := by
  refine C_X11_ran hs ⟨fun h => ⟨by omega, hQ _ ⟨sh_I hs (by omega) (hs.k (a := 125) rfl) (Or.inl (by decide)), fun c j h1 h2 => ?_, rfl, ?_, fun j => ?_⟩⟩, fun h => ⟨by omega, by omega, hb, ?_, hQ _ ⟨?_, fun c j h1 h2 => ?_, rfl, ?_, fun j => ?_⟩⟩⟩
  · rw [sI_at, if_neg h2]
  · rw [sI_at]; simp
  · rw [sI_at, if_neg (by omega)]; simp only [trP]; rw [if_neg (by omega)]
  · rw [sI_at, if_neg (by omega)]; omega
  · have h2 := sh_I hs hb (hs.k (a := 150) (kd := (50, 20)) rfl) (k := (σ.2.1 125 38).toNat) (Or.inl (by decide))
    exact sh_I h2 (by rw [sI_at, if_neg (by omega)]; omega) (h2.k (a := 125) rfl) (Or.inl (by decide))
  · rw [sI_at, if_neg h2, sI_at, if_neg (by omega)]
  · rw [sI_at, if_pos ⟨rfl, rfl⟩, sI_at, if_neg (by omega)]; simp
  · rw [sI_at, if_neg (by omega), sI_at]; simp only [trP]; rw [if_pos (show _ < (20 : Int) by omega)]; simp
/-- the body of a kind for an act -/
def bf : Nat → Int → Int → Int
  | 0, _, _ => 0
  | m + 1, one, a => if one < 0 then 0 else if tabB.getD (one * 3 + a).toNat 0 = 0 then bf m (tabA.getD one.toNat 0) a else tabB.getD (one * 3 + a).toNat 0
theorem tabA_k : ∀ n, n < 7 → -1 ≤ tabA.getD n 0 ∧ tabA.getD n 0 ≤ 6 := by decide
theorem c_above (hs : Sh σ) {x : Int} (hx : 0 ≤ x ∧ x ≤ 6) (hQ : Q (some (vI (tabA.getD x.toNat 0))) σ) : CALL X d (0, 0) MX0_above [vI x] σ Q :=
  C_X0_above hs ⟨by omega, fun h => by omega, fun _ => ⟨fun _ => ⟨by omega, hQ⟩, fun h => by omega⟩⟩
theorem c_bodyFrom (hs : Sh σ) {k a : Int} (hk : 0 ≤ k ∧ k ≤ 6) (ha : 0 ≤ a ∧ a ≤ 2) (hQ : Q (some (vI (bf 7 k a))) σ) : CALL X (d + 1) (0, 0) MX0_bodyFrom [vI k, vI a] σ Q := by
  have key : ∀ (m i : Nat) (one : Int), i + m = 7 → -1 ≤ one ∧ one ≤ 6 → Q (some (vI (bf m one a))) σ → WP X (d + 1) (0, 0) MX0_bodyFrom 4 [(1, vI a), (2, vI one), (3, vI (i : Int))] [] σ Q := by
    intro m
    induction m with
    | zero =>
      intro i one hi ho hq
      exact C_X0_bodyFrom_4 hs ⟨by omega, fun _ => hq, fun h => absurd h (by omega)⟩
    | succ m ih =>
      intro i one hi ho hq
      have up : 0 ≤ one → tabB.getD (one * 3 + a).toNat 0 = 0 → WP X (d + 1) (0, 0) MX0_bodyFrom 4 [(1, vI a), (2, vI (tabA.getD one.toNat 0)), (3, vI ((i : Int) + 1))] [] σ Q := by
        intro h0 h1
        have := ih (i + 1) (tabA.getD one.toNat 0) (by omega) (tabA_k _ (by omega)) (by
          simp only [bf] at hq
          rw [if_neg (by omega), if_pos h1] at hq
          exact hq)
        rw [show (i : Int) + 1 = ((i + 1 : Nat) : Int) by omega]
        exact this
      refine C_X0_bodyFrom_4 hs ⟨by omega, fun h => by omega, fun _ => ⟨by omega, fun h => ?_, fun h => ⟨by omega, fun h2 => by omega, fun h2 => ⟨fun h3 => by omega, fun h3 => ⟨by omega, by omega, fun h4 => c_above hs (by omega) ⟨_, rfl, hs, up (by omega) h4⟩, fun h4 => ?_⟩⟩⟩⟩⟩
      · simp only [bf] at hq
        rw [if_pos h] at hq
        exact hq
      · simp only [bf] at hq
        rw [if_neg h, if_neg h4] at hq
        exact hq
  exact C_X0_bodyFrom hs (key 7 0 k (by omega) (by omega) hQ)
theorem x_perf (hs : Sh σ) {k a x dep : Int} (B : Int) (hk : 0 ≤ k ∧ k ≤ 6) (ha : 0 ≤ a ∧ a ≤ 2) (hb : bf 7 k a = B) (hB : 10 ≤ B ∧ B ≤ 100) (hd : 0 ≤ dep ∧ dep ≤ 20) (hn : 0 ≤ σ.2.1 110 1 ∧ σ.2.1 110 1 ≤ 1000)
    (h : ∀ σ1, Pushed 110 1 111 [B] σ σ1 → CALL X (d + 1) (0, 0) MX0_run [vP (some 110), vI B, vI x, vI (dep + 1)] σ1 (fun v σ2 => ∃ z, v = some (vI z) ∧ Sh σ2 ∧ Q (some (vI z)) σ2)) : CALL X (d + 2) (0, 0) MX0_perform [vP (some 110), vI k, vI a, vI x, vI dep] σ Q := by
  subst hb
  exact C_X0_perform hs (c_bodyFrom hs hk ha ⟨_, rfl, hs, by omega, fun h0 => by omega, fun _ => ⟨by omega, fun _ => c_note hs (by omega) hn (fun σ1 hp => ⟨rfl, hp.1, h σ1 hp⟩), fun h1 => by omega⟩⟩)
def lS (v i k x : Int) : Int × List Int := if k = 2 ∨ k = 5 then (x * 3 + i, [30, 10]) else if k = 4 then (-(x + i), [50, 10]) else if k = 6 then (bxor (x + i) v, [71, 10]) else (x + i, [10])
def n0S (v i kk x : Int) : Int × List Int := ((lS v i kk x).1 - v, 11 :: (lS v i kk x).2)
def nS (v i kk k x : Int) : Int × List Int := if k = 1 then (bxor (n0S v i kk x).1 6, 20 :: (n0S v i kk x).2) else if k = 4 then (bxor (n0S v i kk (x + 1)).1 6, 51 :: 20 :: (n0S v i kk (x + 1)).2) else if k = 6 then ((n0S v i kk x).1 + (2 + i), 70 :: ((n0S v i kk x).2 ++ [10])) else n0S v i kk x
def t0S (v i kk x : Int) : Int × List Int := ((nS v i kk kk x).1 * 2, 12 :: (nS v i kk kk x).2)
def tS (v i kk k x : Int) : Int × List Int := if k = 3 ∨ k = 6 then ((t0S v i kk x).1 + (nS v i kk kk 1).1, 40 :: ((t0S v i kk x).2 ++ (nS v i kk kk 1).2)) else if k = 5 then ((t0S v i kk (x - i)).1, 60 :: (t0S v i kk (x - i)).2) else t0S v i kk x
theorem kinds7 {k : Int} (h : 0 ≤ k ∧ k ≤ 6) : k = 0 ∨ k = 1 ∨ k = 2 ∨ k = 3 ∨ k = 4 ∨ k = 5 ∨ k = 6 := by omega
theorem Pushed.n {bs : List Int} {σ σ' : mS} (h : Pushed 110 1 111 bs σ σ') : σ'.2.1 110 1 = σ.2.1 110 1 + bs.length ∧ σ'.2.1 110 2 = σ.2.1 110 2 ∧ σ'.2.1 110 3 = σ.2.1 110 3 ∧ σ'.2.1 110 4 = σ.2.1 110 4 :=
  ⟨h.2.2.2.1, h.2.1 _ _ (by decide) (by decide), h.2.1 _ _ (by decide) (by decide), h.2.1 _ _ (by decide) (by decide)⟩
theorem x_L10 (hs : Sh σ) {k x dep : Int} (hk : k = 0 ∨ k = 1 ∨ k = 3) (hd : 0 ≤ dep ∧ dep ≤ 19) (hn : 0 ≤ σ.2.1 110 1 ∧ σ.2.1 110 1 ≤ 900) (hQ : ∀ σ', Pushed 110 1 111 [10] σ σ' → Q (some (vI (x + σ.2.1 110 4))) σ') : CALL X (d + 2) (0, 0) MX0_perform [vP (some 110), vI k, vI 0, vI x, vI dep] σ Q := by
  refine x_perf hs 10 (by omega) (by decide) (by rcases hk with rfl | rfl | rfl <;> decide) (by decide) (by omega) (by omega) (fun σ1 hp => ?_)
  refine C_X0_run hp.1 ⟨by decide, ?_, ?_, ?_, ?_, ?_, ?_, ?_, ?_, ?_, ?_, ?_, ?_⟩ <;> intro hb <;> try (exfalso; omega)
  refine ⟨_, rfl, hp.1, ?_⟩
  rw [hp.n.2.2.2]
  exact hQ σ1 hp
theorem x_L (hs : Sh σ) {k x dep : Int} (hk : 0 ≤ k ∧ k ≤ 6) (hd : 0 ≤ dep ∧ dep ≤ 18) (hn : 0 ≤ σ.2.1 110 1 ∧ σ.2.1 110 1 ≤ 800) (hQ : ∀ σ', Pushed 110 1 111 (lS (σ.2.1 110 3) (σ.2.1 110 4) k x).2 σ σ' → Q (some (vI (lS (σ.2.1 110 3) (σ.2.1 110 4) k x).1)) σ') : CALL X (d + 4) (0, 0) MX0_perform [vP (some 110), vI k, vI 0, vI x, vI dep] σ Q := by
  unfold lS at hQ
  rcases kinds7 hk with rfl | rfl | rfl | rfl | rfl | rfl | rfl
  · exact x_L10 hs (by decide) (by omega) (by omega) hQ
  · exact x_L10 hs (by decide) (by omega) (by omega) hQ
  · refine x_perf hs 30 (by omega) (by decide) (by decide) (by decide) (by omega) (by omega) (fun σ1 hp => ?_)
    have hpn := hp.n
    refine C_X0_run hp.1 ⟨by decide, ?_, ?_, ?_, ?_, ?_, ?_, ?_, ?_, ?_, ?_, ?_, ?_⟩ <;> intro hb <;> try (exfalso; omega)
    refine x_L10 hp.1 (by decide) (by omega) (by rw [hpn.1]; simp; omega) (fun σ2 hp2 => ⟨_, rfl, hp2.1, _, rfl, hp2.1, ?_⟩)
    rw [hpn.2.2.2]
    exact hQ σ2 (hp.tr hp2)
  · exact x_L10 hs (by decide) (by omega) (by omega) hQ
  · refine x_perf hs 50 (by omega) (by decide) (by decide) (by decide) (by omega) (by omega) (fun σ1 hp => ?_)
    have hpn := hp.n
    refine C_X0_run hp.1 ⟨by decide, ?_, ?_, ?_, ?_, ?_, ?_, ?_, ?_, ?_, ?_, ?_, ?_⟩ <;> intro hb <;> try (exfalso; omega)
    refine x_L10 hp.1 (by decide) (by omega) (by rw [hpn.1]; simp; omega) (fun σ2 hp2 => ⟨_, rfl, hp2.1, _, rfl, hp2.1, ?_⟩)
    rw [hpn.2.2.2]
    exact hQ σ2 (hp.tr hp2)
  · refine x_perf hs 30 (by omega) (by decide) (by decide) (by decide) (by omega) (by omega) (fun σ1 hp => ?_)
    have hpn := hp.n
    refine C_X0_run hp.1 ⟨by decide, ?_, ?_, ?_, ?_, ?_, ?_, ?_, ?_, ?_, ?_, ?_, ?_⟩ <;> intro hb <;> try (exfalso; omega)
    refine x_L10 hp.1 (by decide) (by omega) (by rw [hpn.1]; simp; omega) (fun σ2 hp2 => ⟨_, rfl, hp2.1, _, rfl, hp2.1, ?_⟩)
    rw [hpn.2.2.2]
    exact hQ σ2 (hp.tr hp2)
  · refine x_perf hs 71 (by omega) (by decide) (by decide) (by decide) (by omega) (by omega) (fun σ1 hp => ?_)
    have hpn := hp.n
    refine C_X0_run hp.1 ⟨by decide, ?_, ?_, ?_, ?_, ?_, ?_, ?_, ?_, ?_, ?_, ?_, ?_⟩ <;> intro hb <;> try (exfalso; omega)
    refine x_L10 hp.1 (by decide) (by omega) (by rw [hpn.1]; simp; omega) (fun σ2 hp2 => ⟨_, rfl, hp2.1, _, rfl, hp2.1, ?_⟩)
    rw [hpn.2.2.2, hp2.n.2.2.1, hpn.2.2.1]
    exact hQ σ2 (hp.tr hp2)
end ACTS
