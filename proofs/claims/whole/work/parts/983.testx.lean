/-! BORDER, 4: the class's tests -/
section TESTX
variable {X : mX} {d : Nat} {σ : mS} {Q : Option mV → mS → Prop} {T : Nat → Int} {n bb a : Nat} {C : List Int}
theorem x_test (h : PX T n bb a C σ) (hy : (pTst T n a).1 = true → ∀ σ', PX T n bb (pTst T n a).2.1 (C ++ (pTst T n a).2.2) σ' → Agk (DFx bb) σ σ' → Q (some (vI (bB true))) σ') (hn : (pTst T n a).1 = false → ∀ σ' C', PX T n bb (pTst T n a).2.1 C' σ' → Agk (DFx bb) σ σ' → Q (some (vI (bB false))) σ') : CALL X (d + 6) (0, 0) MX5_readTest [vP (some 108)] σ Q := by
  have e1 := plc_rng (chT T n a) letL 0
  have e2 := plc_rng (chT T n (a + 1)) sigL 0
  simp only [List.length_cons, List.length_nil] at e1 e2
  have p4 := h.2.2.2.2.2.1
  have p9 := h.2.2.2.2.2.2.2.2.2.2.1
  have p1 := h.2.2.1
  have p2 := h.2.2.2.1
  have t1 : ∀ {a b c : mS}, Agk (DFx bb) a b → Agk (DFx bb) b c → Agk (DFx bb) a c := fun x y => x.tr y (fun _ _ h => h) (fun _ _ h => h)
  unfold pTst at hy hn
  refine C_X5_readTest (d := d + 5) h.1 (x_place (d := d + 1) (k := 3) (by decide) h ⟨_, rfl, h.1, ?_, fun q => ?_, fun q => ?_⟩)
  · show -2147483648 ≤ plc letL (chT T n a) 0 ∧ plc letL (chT T n a) 0 ≤ 2147483647
    omega
  · have q : 0 ≤ plc letL (chT T n a) 0 := q
    have ha := plc_in (T := T) (n := n) (L := letL) (by decide) q
    rw [if_pos q] at hy hn
    refine x_goTo h (a' := a + 1) (by omega) (by omega) (by omega) (fun σ1 k1 k2 => ⟨rfl, k1.1, ?_⟩)
    refine x_place (d := d + 1) (k := 4) (by decide) k1 ⟨_, rfl, k1.1, ?_, fun r => ?_, fun r => ?_⟩
    · show -2147483648 ≤ plc sigL (chT T n (a + 1)) 0 ∧ plc sigL (chT T n (a + 1)) 0 ≤ 2147483647
      omega
    · have r : 0 ≤ plc sigL (chT T n (a + 1)) 0 := r
      have ha2 := plc_in (T := T) (n := n) (a := a + 1) (L := sigL) (by decide) r
      rw [if_pos r] at hy hn
      have pp := k1.2.2.2.2.2.1
      refine x_goTo k1 (a' := a + 2) (by rw [pp]; omega) (by omega) (by omega) (fun σ2 m1 m2 => ⟨rfl, m1.1, ?_⟩)
      have mA := t1 k2 m2
      refine x_number (d := d) m1 (fun u σ' g1 g2 g3 => ?_) (fun u => ?_)
      · obtain ⟨w1, w2, w3, w4⟩ := pNum_ok u
        refine ⟨true, rfl, g1.1, (fun q => nomatch q), fun _ => ⟨bb, g1.2.2.2.2.2.2.2.2.1, g1.2.1, ?_⟩⟩
        rw [g3]
        refine C_X1_addTest (d := d + 4) g1.1 g1.2.1 (x_addCode (a := (pNum T n (a + 2)).2.1) g1 (by omega) (c := 3 + (plc letL (chT T n a) 0 * 3 + plc sigL (chT T n (a + 1)) 0) * 100 + (pNum T n (a + 2)).2.2) (by omega) (fun σ2 f1 f2 => ⟨rfl, f1.1, rfl, f1.1, ?_⟩))
        exact hy u σ2 f1 (t1 (t1 mA g2) f2)
      · have e := pNum_no u
        refine ⟨false, rfl, m1.1, fun _ => hn u _ C ?_ mA, fun q => nomatch q⟩
        show PX T n bb (pNum T n (a + 2)).2.1 C _
        rw [e]
        exact m1
    · have r : ¬ 0 ≤ plc sigL (chT T n (a + 1)) 0 := r
      rw [if_neg r] at hn
      exact hn rfl _ C k1 k2
  · have q : ¬ 0 ≤ plc letL (chT T n a) 0 := q
    rw [if_neg q] at hn
    exact hn rfl _ C h (Agk.rf h.1)
def okX (T : Nat → Int) (n bb f m k a : Nat) (C : List Int) (σ : mS) (Q : Option mV → mS → Prop) : Prop :=
  (∀ σ', (pS T n f m k a).1 = true → PX T n bb (pS T n f m k a).2.1 (C ++ (pS T n f m k a).2.2) σ' → Agk (DFx bb) σ σ' → Q (some (vI (bB true))) σ') ∧
  (∀ σ' C', (pS T n f m k a).1 = false → PX T n bb (pS T n f m k a).2.1 C' σ' → Agk (DFx bb) σ σ' → Q (some (vI (bB false))) σ')
def XF (X : mX) (T : Nat → Int) (n bb f : Nat) : Prop := ∀ (D k a : Nat) (C : List Int) (σ : mS) (Q : Option mV → mS → Prop), k ≤ 4 → 4 * (n - a) + 1 ≤ f → 7 + 3 * (4 - k) ≤ D → PX T n bb a C σ → okX T n bb f 0 k a C σ Q → CALL X D (0, 0) MX5_readPart [vP (some 108), vI (k : Int)] σ Q
def XE (X : mX) (T : Nat → Int) (n bb f : Nat) : Prop := ∀ (D k a : Nat) (C : List Int) (σ : mS) (Q : Option mV → mS → Prop), k ≤ 4 → 4 * (n - a) + 3 ≤ f → 9 + 3 * (4 - k) ≤ D → PX T n bb a C σ → okX T n bb f 2 k a C σ Q → CALL X D (0, 0) MX5_readEither [vP (some 108), vI (k : Int)] σ Q
/-- behind a T: the sign for another one, or the end -/
def SK2 (X : mX) (d k i : Nat) (u : Bool) (Q : Option mV → mS → Prop) (σ : mS) : Prop :=
  CALL X d (0, 0) MX5_skip [vP (some 108), vI 124] σ (fun v σ' => ∃ z : Bool, v = some (vI (bB z)) ∧ Sh σ' ∧ (z = false → Q (some (vI (bB true))) σ') ∧ (z = true → WP X (d + 1) (0, 0) MX5_readEither 7 [(0, vP (some 108)), (1, vI (k : Int)), (2, vI (bB u)), (3, vI (bB z)), (4, vI ((i : Int) + 1))] [] σ' Q))
/-- the same, what is due being done first -/
def TLP (X : mX) (d k i : Nat) (u o : Bool) (Q : Option mV → mS → Prop) (σ : mS) : Prop :=
  (-2147483648 ≤ bB o ∧ bB o ≤ 2147483647) ∧ (bB o = 0 → SK2 X d k i u Q σ) ∧ (¬ bB o = 0 → (∃ b : Nat, σ.2.2.2 108 5 = some b ∧ isB b ∧ CALL X d (0, 0) MX1_addCode [vP (some b), vI 2] σ (fun v σ' => v = none ∧ Sh σ' ∧ SK2 X d k i u Q σ')))
/-- behind an F: the sign for another one, or what follows a T -/
def SK1 (X : mX) (d k i : Nat) (o : Bool) (Q : Option mV → mS → Prop) (σ : mS) : Prop :=
  CALL X d (0, 0) MX5_skip [vP (some 108), vI 38] σ (fun v σ' => ∃ z : Bool, v = some (vI (bB z)) ∧ Sh σ' ∧ (z = false → TLP X d k i z o Q σ') ∧ (z = true → WP X (d + 1) (0, 0) MX5_readEither 7 [(0, vP (some 108)), (1, vI (k : Int)), (2, vI (bB z)), (3, vI (bB o)), (4, vI ((i : Int) + 1))] [] σ' Q))
def okT (X : mX) (T : Nat → Int) (n bb f m d k a : Nat) (o : Bool) (C : List Int) (σ : mS) (Q : Option mV → mS → Prop) : Prop :=
  (∀ (σ' : mS) (j : Nat), (pS T n f m k a).1 = true → 2 * j + 1 ≤ (pS T n f m k a).2.1 → PX T n bb (pS T n f m k a).2.1 (C ++ (pS T n f m k a).2.2) σ' → Agk (DFx bb) σ σ' → TLP X d k j false o Q σ') ∧
  (∀ σ' C', (pS T n f m k a).1 = false → PX T n bb (pS T n f m k a).2.1 C' σ' → Agk (DFx bb) σ σ' → Q (some (vI (bB false))) σ')
def XT1 (X : mX) (T : Nat → Int) (n bb f : Nat) : Prop := ∀ (d k a i : Nat) (o : Bool) (C : List Int) (σ : mS) (Q : Option mV → mS → Prop), k ≤ 4 → 4 * (n - a) + 2 ≤ f → 7 + 3 * (4 - k) ≤ d → 2 * i ≤ a → C.length + o.toNat ≤ a → PX T n bb a C σ → okT X T n bb f 1 d k a o C σ Q → WP X (d + 1) (0, 0) MX5_readEither 7 [(0, vP (some 108)), (1, vI (k : Int)), (2, vI (bB false)), (3, vI (bB o)), (4, vI (i : Int))] [] σ Q
def XT3 (X : mX) (T : Nat → Int) (n bb f : Nat) : Prop := ∀ (d k a i : Nat) (o : Bool) (C : List Int) (σ : mS) (Q : Option mV → mS → Prop), k ≤ 4 → 4 * (n - a) + 1 ≤ f → 7 + 3 * (4 - k) ≤ d → 2 * i + 1 ≤ a → C.length + o.toNat ≤ a → PX T n bb a C σ → okT X T n bb f 3 d k a o C σ Q → SK1 X d k i o Q σ
def XT4 (X : mX) (T : Nat → Int) (n bb f : Nat) : Prop := ∀ (d k a i : Nat) (o : Bool) (C : List Int) (σ : mS) (Q : Option mV → mS → Prop), k ≤ 4 → 4 * (n - a) + 1 ≤ f → 7 + 3 * (4 - k) ≤ d → 2 * i + 1 ≤ a → C.length + o.toNat ≤ a → PX T n bb a C σ → okX T n bb f 4 k a (C ++ (if o = true then [2] else [])) σ Q → TLP X d k i false o Q σ
/-- F, one step of fuel -/
theorem XF_step {f : Nat} (hF : XF X T n bb f) (hE : XE X T n bb f) : XF X T n bb (f + 1) := by
  intro D k a C σ Q hk hf hD h hok
  obtain ⟨d, rfl⟩ : ∃ d, D = d + 7 := ⟨D - 7, by omega⟩
  obtain ⟨hy, hn⟩ := hok
  rw [pS_F] at hy hn
  have hch := h.ch
  have hsg := h.sg
  have p4 := h.2.2.2.2.2.1
  have p9 := h.2.2.2.2.2.2.2.2.2.2.1
  have p1 := h.2.2.1
  have p2 := h.2.2.2.1
  have t1 : ∀ {a b c : mS}, Agk (DFx bb) a b → Agk (DFx bb) b c → Agk (DFx bb) a c := fun x y => x.tr y (fun _ _ h => h) (fun _ _ h => h)
  refine C_X5_readPart (d := d + 6) h.1 ⟨fun c1 => ⟨by omega, fun ck => ?_, fun ck => ?_⟩, fun c1 => ⟨fun c2 => ⟨by omega, fun ck => ?_, fun ck => ?_⟩, fun c2 => ?_⟩⟩
  · have c1 : chT T n a = 33 := hsg.symm.trans c1
    have ha := chT_in (T := T) (n := n) (a := a) (by rw [c1]; decide)
    rw [if_pos c1, if_pos (by omega)] at hy hn
    refine x_skip (d := d + 5) h (by decide) (fun q => absurd q (by omega)) (fun _ => ⟨false, rfl, h.1, fun _ => ?_, fun q => nomatch q⟩)
    refine x_goTo h (a' := a + 1) (by omega) (by omega) (by omega) (fun σ1 k1 k2 => ⟨rfl, k1.1, ?_⟩)
    rw [show (k : Int) + 1 = ((k + 1 : Nat) : Int) by omega]
    refine hF (d + 6) (k + 1) (a + 1) C _ _ (by omega) (by omega) (by omega) k1 ⟨fun σ' u g1 g2 => ?_, fun σ' C' u g1 g2 => ?_⟩
    · obtain ⟨w1, w2, w3, w4, w5⟩ := pS_ok (T := T) (n := n) f 0 (k + 1) (a + 1) (by omega) u
      refine ⟨true, rfl, g1.1, (fun q => nomatch q), fun _ => ⟨bb, g1.2.2.2.2.2.2.2.2.1, g1.2.1, x_addCode g1 (by rw [List.length_append]; omega) (by decide) (fun σ2 f1 f2 => ⟨rfl, f1.1, ?_⟩)⟩⟩
      refine hy σ2 u ?_ (t1 (t1 k2 g2) f2)
      rw [List.append_assoc] at f1
      exact f1
    · exact ⟨false, rfl, g1.1, fun _ => hn σ' C' u g1 (t1 k2 g2), fun q => nomatch q⟩
  · have c1 : chT T n a = 33 := hsg.symm.trans c1
    rw [if_pos c1, if_neg (by omega)] at hn
    exact hn σ C rfl h (Agk.rf h.1)
  · have c2 : chT T n a = 40 := hsg.symm.trans c2
    have ha := chT_in (T := T) (n := n) (a := a) (by rw [c2]; decide)
    rw [if_neg (by omega), if_pos c2, if_pos (by omega)] at hy hn
    refine x_skip (d := d + 5) h (by decide) (fun _ σ1 k1 k2 => ⟨true, rfl, k1.1, (fun q => nomatch q), fun _ => ?_⟩) (fun q => absurd c2 q)
    rw [show (k : Int) + 1 = ((k + 1 : Nat) : Int) by omega]
    refine hE (d + 6) (k + 1) (a + 1) C _ _ (by omega) (by omega) (by omega) k1 ⟨fun σ' u g1 g2 => ?_, fun σ' C' u g1 g2 => ?_⟩
    · rw [if_pos u] at hy hn
      obtain ⟨w1, w2, w3, w4, w5⟩ := pS_ok (T := T) (n := n) f 2 (k + 1) (a + 1) (by omega) u
      refine ⟨true, rfl, g1.1, (fun q => nomatch q), fun _ => x_skip (d := d + 5) g1 (by decide) (fun q σ2 f1 f2 => ⟨true, rfl, f1.1, (fun q => nomatch q), fun _ => ?_⟩) (fun q => ⟨false, rfl, g1.1, fun _ => ?_, fun q => nomatch q⟩)⟩
      · rw [if_pos q] at hy
        exact hy σ2 rfl f1 (t1 (t1 k2 g2) f2)
      · rw [if_neg q] at hn
        exact hn σ' _ rfl g1 (t1 k2 g2)
    · rw [if_neg (by rw [u]; decide)] at hn
      exact ⟨false, rfl, g1.1, fun _ => hn σ' C' rfl g1 (t1 k2 g2), fun q => nomatch q⟩
  · have c2 : chT T n a = 40 := hsg.symm.trans c2
    rw [if_neg (by omega), if_pos c2, if_neg (by omega)] at hn
    exact hn σ C rfl h (Agk.rf h.1)
  · rw [if_neg (fun e => c1 (hsg.trans e)), if_neg (fun e => c2 (hsg.trans e))] at hy hn
    exact x_test (d := d) h (fun u σ' g1 g2 => ⟨true, rfl, g1.1, hy σ' u g1 g2⟩) (fun u σ' C' g1 g2 => ⟨false, rfl, g1.1, hn σ' C' u g1 g2⟩)
end TESTX
