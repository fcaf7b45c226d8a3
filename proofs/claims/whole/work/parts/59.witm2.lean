/-! the reference's sum, rest, WIT and answers -/
section WITMB
variable {X : mX} {d : Nat} {σ : mS} {Q : Option mV → mS → Prop} {B : List mCl}
theorem dropE {α : Type} {K L : List α} {c x : α} {i : Nat} (hi : i + (L.length + 1) = K.length) (hd : K.drop i = c :: L) : K.drop (i + 1) = L ∧ K.getD i x = c ∧ c ∈ K := by
  have hlt : i < K.length := by omega
  have hcons := List.drop_eq_getElem_cons hlt
  rw [hd] at hcons
  obtain ⟨e1, e2⟩ := List.cons.inj hcons
  exact ⟨e2.symm, by rw [e1, List.getD_eq_getElem?_getD, List.getElem?_eq_getElem hlt]; rfl, by rw [e1]; exact List.getElem_mem hlt⟩
theorem m_isTrue (h : MB σ B) {p m c e i : Nat} (hp : p < 6) (hm : m < 4096) (hc : c < 60) (he : e ≤ 800) {cs : List Int} (h1 : σ.2.1 139 c = (i : Int)) (h2 : σ.2.1 140 c = cs.length) (hi : i + cs.length = e) (hd : dp cs 0 = some 1) (hcs : ∀ j, j < cs.length → σ.2.1 141 (i + j) = cs.getD j 0) (hQ : ∀ σ', Agk D155 σ σ' → Q (some (vI (bB ((evl (facF σ.2.1 p (σ.2.1 127 p) (pc m)) cs []).headD false)))) σ') : CALL X (d + 2) (0, 0) MX11_isTrue [vP (some 125), vI (p : Int), vI (m : Int), vI (c : Int)] σ Q := by
  refine C_X11_isTrue h.1 ⟨by omega, by omega, ?_⟩
  rw [show ((c : Int)).toNat = c by omega, h1]
  exact m_trueL h hp hm hc he (by omega) hQ cs [] i σ (Agk.rf h.1) hd (by decide) hi hcs trivial rfl
theorem MB.held (h : MB σ B) : (σ.2.1 125 19 = -1 ∧ B = []) ∨ (∃ b : Nat, b < 6 ∧ σ.2.1 125 19 = (b : Int) ∧ RepM σ.2.1 b B) := by
  obtain ⟨-, ⟨k1, k2, k3, k4⟩, k5⟩ := h.2.2
  rcases k5 with k5 | ⟨e1, e2, e3, e4⟩
  · exact Or.inl k5
  · exact Or.inr ⟨(σ.2.1 125 19).toNat, by omega, by omega, e3⟩
theorem m_sumL {σ0 : mS} (h0 : MB σ0 B) {p m b : Nat} (hp : p < 6) (hm : m < 4096) (hb : b < 6) (hh : σ0.2.1 125 19 = (b : Int)) (hR : RepM σ0.2.1 b B) {R : Int} (hQ : ∀ σ', Agk D155 σ0 σ' → Q (some (vI R)) σ') : ∀ (L : List mCl) (i : Nat) (s : Int) (σ : mS), Agk D155 σ0 σ → i + L.length = B.length → B.drop i = L → s + bonS (facF σ0.2.1 p (σ0.2.1 127 p) (pc m)) L = R → WP X (d + 3) (0, 0) MX11_sum 41 [(0, vP (some 125)), (1, vI (p : Int)), (2, vI (m : Int)), (3, vI s), (4, vI (i : Int))] [] σ Q := by
  obtain ⟨hok, hlen⟩ := h0.2.2.1
  have h26 := h0.2.2.2.1.2.2.2
  obtain ⟨r1, r2⟩ := hR
  intro L
  induction L with
  | nil =>
    intro i s σ hA hi hd hS
    simp only [List.length_nil] at hi
    rw [bonS_nil, Int.add_zero] at hS
    subst hS
    refine C_X11_sum_41 hA.1 ?_
    rw [hA.n155 (a := 125) (by decide), hh, show ((b : Int)).toNat = b by omega, hA.n155 (a := 136) (by decide), r1]
    exact ⟨fun h => absurd h (by omega), fun _ => ⟨by omega, by omega, by omega, fun _ => hQ _ hA, fun h => absurd h (by omega)⟩⟩
  | cons c L ih =>
    intro i s σ hA hi hd hS
    simp only [List.length_cons] at hi
    obtain ⟨d1, d2, d3⟩ := dropE (x := cl0) hi hd
    have hlt : i < B.length := by omega
    have okc := hok c d3
    obtain ⟨e1, e2, e3, e4, e5, e6⟩ := r2 i hlt
    rw [d2] at e1 e2 e4 e6
    rw [bonS_cons] at hS
    refine C_X11_sum_41 hA.1 ?_
    rw [hA.n155 (a := 125) (by decide), hh, show ((b : Int)).toNat = b by omega, hA.n155 (a := 136) (by decide), r1, show (10 * (b : Int) + (i : Int)) = ((10 * b + i : Nat) : Int) by omega, show (((10 * b + i : Nat) : Int)).toNat = 10 * b + i by omega, hA.n155 (a := 137) (by decide), e1, show (i : Int) + 1 = ((i + 1 : Nat) : Int) by omega]
    refine ⟨fun h => absurd h (by omega), fun _ => ⟨by omega, by omega, by omega, fun h => absurd h (by omega), fun _ => ⟨by omega, by omega, fun hw => ?_, fun hw => ?_⟩⟩⟩
    · rw [if_neg (by omega), Int.zero_add] at hS
      exact ih (i + 1) s σ hA (by omega) d1 hS
    · rw [if_pos (by omega)] at hS
      have h1 := h0.f155 hA
      obtain ⟨n, hn⟩ : ∃ n : Nat, σ0.2.1 139 (10 * b + i) = (n : Int) := ⟨(σ0.2.1 139 (10 * b + i)).toNat, by omega⟩
      have eF : facF σ.2.1 p (σ.2.1 127 p) (pc m) = facF σ0.2.1 p (σ0.2.1 127 p) (pc m) := by
        funext k
        unfold facF
        rw [hA.n155 (a := 126) (by decide), hA.n155 (a := 127) (by decide), hA.n155 (a := 129) (by decide), hA.n155 (a := 125) (by decide)]
      rw [hn, show ((n : Int)).toNat = n by omega] at e6
      refine m_isTrue h1 hp hm (c := 10 * b + i) (i := n) (cs := c.2.2) (e := n + c.2.2.length) (by omega) (by omega) (by rw [hA.n155 (a := 139) (by decide), hn]) (by rw [hA.n155 (a := 140) (by decide), e4]) rfl (okc.2.2.1 (by omega)) (fun j hj => by rw [hA.n155 (a := 141) (by decide)]; exact e6 j hj) (fun σ1 hA1 => ?_)
      have hA2 : Agk D155 σ0 σ1 := hA.tr hA1 (fun _ _ q => q) (fun _ _ q => q)
      rw [eF]
      refine ⟨_, rfl, hA1.1, fun hz => ?_, fun hz => ?_⟩
      · rw [show holC (facF σ0.2.1 p (σ0.2.1 127 p) (pc m)) c = false from hz] at hS
        refine ih (i + 1) s σ1 hA2 (by omega) d1 ?_
        rw [← hS]
        simp only [Bool.false_eq_true, if_false]
        omega
      · rw [show holC (facF σ0.2.1 p (σ0.2.1 127 p) (pc m)) c = true from hz] at hS
        simp only [if_true] at hS
        rw [hA2.n155 (a := 137) (by decide), hA2.n155 (a := 138) (by decide), e1, e2]
        unfold worC at hS
        refine ⟨fun hw0 => ih (i + 1) _ σ1 hA2 (by omega) d1 ?_, fun hw0 => ih (i + 1) _ σ1 hA2 (by omega) d1 ?_⟩
        · rw [if_neg hw0] at hS
          omega
        · rw [if_pos hw0] at hS
          omega
theorem m_sum (h : MB σ B) {p m : Nat} (hp : p < 6) (hm : m < 4096) (hQ : ∀ σ', Agk D155 σ σ' → Q (some (vI (sumN B σ.2.1 p (σ.2.1 127 p) (pc m) (pc (m &&& (σ.2.1 128 p).toNat))))) σ') : CALL X (d + 3) (0, 0) MX11_sum [vP (some 125), vI (p : Int), vI (m : Int)] σ Q := by
  have hs := h.1
  have g := h.2.1.g hp
  obtain ⟨kn, hkn⟩ : ∃ n : Nat, σ.2.1 128 p = (n : Int) := ⟨(σ.2.1 128 p).toNat, by omega⟩
  have hpn := pc_nd m kn
  refine C_X11_sum hs ?_
  rw [show ((p : Int)).toNat = p by omega]
  rw [hkn, band_n (by omega)]
  rw [hkn, show ((kn : Int)).toNat = kn by omega] at hQ
  refine ⟨by omega, by omega, c_bitCount (Nat.lt_of_le_of_lt Nat.and_le_left hm) ⟨_, rfl, hs, ?_⟩⟩
  rw [hkn, band_nd hm]
  refine c_bitCount (nd_lt hm) ⟨_, rfl, hs, by omega, ?_⟩
  rw [tdiv10 (by omega)]
  unfold sumN at hQ
  rcases h.held with ⟨e1, e2⟩ | ⟨b, e1, e2, e3⟩
  · refine C_X11_sum_41 hs ⟨fun _ => ?_, fun hz => absurd e1 hz⟩
    have := hQ σ (Agk.rf hs)
    rw [e2, bonS_nil] at this
    rw [show 2 * (pc (m &&& kn) : Int) - (pc (nd m kn) : Int) - σ.2.1 129 p / 10 = 2 * (pc (m &&& kn) : Int) - ((pc m : Int) - (pc (m &&& kn) : Int)) - σ.2.1 129 p / 10 + 0 by omega]
    exact this
  · exact m_sumL h hp hm e1 e2 e3 hQ B 0 _ σ (Agk.rf hs) (by omega) rfl (by omega)
theorem m_restL (hs : Sh σ) {b : Nat} (hb : b < 6) (hlen : B.length ≤ 10) (hh : σ.2.1 125 19 = (b : Int)) (hR : RepM σ.2.1 b B) {R : Int} (hQ : Q (some (vI R)) σ) : ∀ (L : List mCl) (i : Nat) (r : Int), i + L.length = B.length → B.drop i = L → L.foldl (fun r c => if c.1 = 2 then c.2.1 else r) r = R → WP X d (0, 0) MX11_restBy 4 [(0, vP (some 125)), (1, vI r), (2, vI (i : Int))] [] σ Q := by
  obtain ⟨r1, r2⟩ := hR
  intro L
  induction L with
  | nil =>
    intro i r hi hd hS
    simp only [List.length_nil] at hi
    simp only [List.foldl_nil] at hS
    subst hS
    refine C_X11_restBy_4 hs ?_
    rw [hh, show ((b : Int)).toNat = b by omega, r1]
    exact ⟨fun h => absurd h (by omega), fun _ => ⟨by omega, by omega, by omega, fun _ => hQ, fun h => absurd h (by omega)⟩⟩
  | cons c L ih =>
    intro i r hi hd hS
    simp only [List.length_cons] at hi
    obtain ⟨d1, d2, d3⟩ := dropE (x := cl0) hi hd
    have hlt : i < B.length := by omega
    obtain ⟨e1, e2, e3, e4, e5, e6⟩ := r2 i hlt
    rw [d2] at e1 e2
    simp only [List.foldl_cons] at hS
    refine C_X11_restBy_4 hs ?_
    rw [hh, show ((b : Int)).toNat = b by omega, r1, show (10 * (b : Int) + (i : Int)) = ((10 * b + i : Nat) : Int) by omega, show (((10 * b + i : Nat) : Int)).toNat = 10 * b + i by omega, e1, e2, show (i : Int) + 1 = ((i + 1 : Nat) : Int) by omega]
    refine ⟨fun h => absurd h (by omega), fun _ => ⟨by omega, by omega, by omega, fun h => absurd h (by omega), fun _ => ⟨by omega, by omega, fun hw => ?_, fun hw => ?_⟩⟩⟩
    · rw [if_neg hw] at hS
      exact ih (i + 1) r (by omega) d1 hS
    · rw [if_pos hw] at hS
      exact ih (i + 1) _ (by omega) d1 hS
theorem m_rest (h : MB σ B) (hQ : Q (some (vI (restC B))) σ) : CALL X d (0, 0) MX11_restBy [vP (some 125)] σ Q := by
  refine C_X11_restBy h.1 ?_
  rcases h.held with ⟨e1, e2⟩ | ⟨b, e1, e2, e3⟩
  · refine C_X11_restBy_4 h.1 ⟨fun _ => ?_, fun hz => absurd e1 hz⟩
    rw [e2] at hQ
    exact hQ
  · exact m_restL h.1 e1 h.2.2.1.2 e2 e3 hQ B 0 5 (by omega) rfl rfl
theorem m_wit (h : MB σ B) {p m : Nat} (hp : p < 6) (hm : m < 4096) (hQ : ∀ σ', Agk D155 σ σ' → Q (some (vI (witS B σ.2.1 p (σ.2.1 127 p) (σ.2.1 128 p).toNat m))) σ') : CALL X (d + 4) (0, 0) MX11_wit [vP (some 125), vI (p : Int), vI (m : Int)] σ Q := by
  have g := h.2.1.g hp
  have hsr := sumN_r (v := σ.2.1 127 p) (p := p) h.2.1 h.2.2.1 hp (pc_le m) (pc_and_le m (σ.2.1 128 p).toNat)
  have hpl := pc_le m
  refine C_X11_wit h.1 (m_sum h hp hm (fun σ1 hA => ⟨_, rfl, hA.1, c_bitCount hm ⟨_, rfl, hA.1, ?_⟩⟩))
  have hQ := hQ σ1 hA
  unfold witS witN at hQ
  have hr := h.2.1.rw (i := 4 * p + pc m % 4) (by omega)
  rw [show ((p : Int)).toNat = p by omega, hA.n155 (a := 126) (by decide), hA.n155 (a := 127) (by decide), hA.n155 (a := 129) (by decide), hA.n155 (a := 125) (by decide), Int.tmod_eq_emod_of_nonneg (a := σ.2.1 125 11) (b := 3) (by have := h.2.1.2.2.1; omega), Int.tmod_eq_emod_of_nonneg (a := (pc m : Int)) (b := 4) (by omega), show ((4 * (p : Int) + (pc m : Int) % 4)).toNat = 4 * p + pc m % 4 by omega, hA.n155 (a := 130) (by decide)]
  have hh := h.2.1.2.2.1
  generalize sumN B σ.2.1 p (σ.2.1 127 p) (pc m) (pc (m &&& (σ.2.1 128 p).toNat)) = s at *
  refine ⟨by omega, by omega, fun k2 => ⟨by omega, by omega, fun ht => ?_, fun ht => ?_, fun ht => ?_, fun ht => ⟨by omega, fun hz => ?_, fun hz => ?_⟩, fun ht => ⟨fun hz => ?_, fun hz => ?_⟩, fun ht => ⟨by omega, by omega, by omega, ?_⟩, fun ht => ?_⟩, fun k2 => ⟨by omega, by omega, fun ht => ?_, fun ht => ?_, fun ht => ?_, fun ht => ⟨by omega, fun hz => ?_, fun hz => ?_⟩, fun ht => ⟨fun hz => ?_, fun hz => ?_⟩, fun ht => ⟨by omega, by omega, by omega, ?_⟩, fun ht => ?_⟩⟩
  · rw [ht, witC_1] at hQ; exact hQ
  · rw [ht, witC_2] at hQ; exact hQ
  · rw [ht, witC_3, if_pos (by omega)] at hQ; exact hQ
  · rw [ht, witC_4, if_neg hz] at hQ; exact hQ
  · rw [ht, witC_4, if_pos hz] at hQ; exact hQ
  · rw [ht, witC_5, if_neg (by omega), Int.sub_zero] at hQ; exact hQ
  · rw [ht, witC_5, if_pos (by omega)] at hQ; exact hQ
  · rw [ht, witC_6, if_pos (by omega)] at hQ; exact hQ
  · rw [witC_0 ht] at hQ; exact hQ
  · rw [ht, witC_1] at hQ; exact hQ
  · rw [ht, witC_2] at hQ; exact hQ
  · rw [ht, witC_3, if_neg (by omega)] at hQ; exact hQ
  · rw [ht, witC_4, if_neg hz] at hQ; exact hQ
  · rw [ht, witC_4, if_pos hz] at hQ; exact hQ
  · rw [ht, witC_5, if_neg (by omega), Int.sub_zero] at hQ; exact hQ
  · rw [ht, witC_5, if_pos (by omega)] at hQ; exact hQ
  · rw [ht, witC_6, if_neg (by omega)] at hQ; exact hQ
  · rw [witC_0 ht] at hQ; exact hQ
theorem m_ans (h : MB σ B) {p m : Nat} (hp : p < 6) (hm : m < 4096) (hQ : ∀ σ', Agk D155 σ σ' → Q (some (vI (bB (ansY B σ.2.1 p m)))) σ') : CALL X (d + 5) (0, 0) MX11_answers [vP (some 125), vI (p : Int), vI (m : Int)] σ Q := by
  have hr := witN_r (p := p) (v := σ.2.1 127 p) (n := pc m) (k := pc (m &&& (σ.2.1 128 p).toNat)) h.2.1 h.2.2.1 hp (h.2.1.g hp).2.1 (pc_le m) (pc_and_le m _)
  refine C_X11_answers h.1 (m_wit h hp hm (fun σ' hA => ⟨_, rfl, hA.1, by unfold witS; omega, fun hz => ?_, fun hz => ?_⟩))
  · have := hQ σ' hA
    unfold ansY ansS at this
    rw [decide_eq_false (by omega)] at this
    exact this
  · have := hQ σ' hA
    unfold ansY ansS at this
    rw [decide_eq_true (by omega)] at this
    exact this
end WITMB
