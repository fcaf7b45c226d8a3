/-! THE ENTRY, 4: the law from its entry, but for what border needs -/
theorem law_wp {nm : String} {X : mX} {e : Nat} (hX1 : X.1 ≤ 4096) (hX2 : ∀ j, -2147483648 ≤ X.2 j ∧ X.2 j ≤ 2147483647) (hb : ∀ σ, Inv σ → BothI X (e + 60) MX10_border MX11_border [] σ Inv) :
    WP X (e + 61) (158, 4303) (MLn nm) 0 [(0, vO 0)] [] (stK 0 25 157) (fun v _ => v = some (vI (bB true))) := by
  refine BN_L_law (d := e + 60) (n0 := 0) (by decide +kernel) (CALL.st (eNst rfl (10, 0) rfl (by decide +kernel) (by decide +kernel) (by decide)) (made_10_0 (d := e) ⟨rfl, by decide +kernel, CALL.st (eNst rfl (11, 0) rfl (by decide +kernel) (by decide +kernel) (by decide)) (made_11_125 (d := e) ⟨rfl, by decide +kernel, ?_⟩)⟩))
  exact law_loop hX1 hX2 hb (fun _ _ => rfl) X.1 0 _ (by omega) (by omega) first_inv
theorem law_start {p : Program} {e : Env} {s : State} {m : MethodId} {below : List Frame} {meth : Method} {c : Code} (l : Launch) {b L : Nat} {xs : Nat → Int32} (hL : L ≤ 3072)
    (hx : p.tables.exec = Jvm.exec) (hcode : c.code = code) (hr : meth.sig.returnType = ret) (hml : c.maxLocals = 4) (hown : s.vm.findClass "BorderQuestionsLaw" = some m.cls) (hts : ∀ w ∈ lw_tbl, w.before #[Value.ref b] s = true) (hX : va_X b L xs s s.heap) (hbl : b < s.heap.size) (hlocks : meth.locks = false) (hgv : (Jvm.Cond.and given_1 narrow_1).before #[Value.ref b] s = true)
    (hb : ∀ (X : mX) (σ : mS), Inv σ → BothI X 60 MX10_border MX11_border [] σ Inv) :
    W p l e room_1 s m #[Value.ref b] below meth c s.heap [] 0 0 (fun t => ∃ o, t.status = .running ∧ Ended t below o ∧ o = .returned (some (.int 1)) ∧ Framed s o t [] 600000 7302250) (entryFrame m ([Value.ref b] : List Value).toArray 4) := by
  obtain ⟨D, f, hK⟩ := start_K hts
  obtain ⟨r, hr0, hRO⟩ := start_RO hts (flat_of_before _ hgv) hX hbl
  have hwp := law_wp (nm := meth.name) (X := (L, fun j => (xs j).toInt)) (e := 0) (show L ≤ 4096 by omega) (fun j => ⟨by have := (xs j).le_toInt; exact this, by have := (xs j).toInt_le; exact this⟩) (fun σ hi => hb _ σ hi)
  rw [lg_entry_eq]
  have hl := lv_entry ([Value.ref b]) (n := 4) (Nat.le_of_ble_eq_true rfl)
  have hl2 : lv_has ((lg_sl [Value.ref b] ++ List.replicate (4 - (lg_sl [Value.ref b]).length) Slot.unset).toArray) 4 (mL (D, f, s.heap.size, r) [(0, vO 0)]) := by
    have : mL (D, f, s.heap.size, r) [(0, vO 0)] = [(0, Value.ref b)] := by
      simp only [mL, List.map_cons, List.map_nil, rv, hr0]
      rfl
    rw [this]
    exact hl
  refine W.monoQ (fun t ht => ?_) (hwp (D, f, s.heap.size, r) room_1 p l e s m #[Value.ref b] below meth c s.heap [] 0 0 158 4303 _ ⟨hx, hcode, hr, hml, hown, rfl, hlocks, fun w hw => hts w (List.mem_filter.mp hw).1, hK _ _, hRO D f, Nat.le_refl _, by decide, by decide, by decide, by decide⟩ rfl (Nat.le_refl _) rfl (fun k q hq => nomatch hq) va_S.rf hl2)
  obtain ⟨o, h1, h2, ⟨v, σ', h3, h4, h5, h6, h7⟩, Ls, h8, h9⟩ := ht
  subst h4
  subst h3
  refine ⟨_, h1, h2, rfl, h8.1, h8.2.1, ?_⟩
  obtain ⟨g1, g2, g3, g4, g5, g6⟩ := h8.2.2
  refine ⟨g1, g2, Nat.le_trans g3 (Nat.add_le_add_left (by decide) _), g4, Nat.le_trans g5 (by decide), fun a c hc => ?_⟩
  obtain ⟨c', k1, k2, k3, k4⟩ := g6 a c hc
  refine ⟨c', k1, k2, k3, fun i _ => k4 i (fun hm => ?_)⟩
  have ha := (Array.getElem?_eq_some_iff.mp hc).1
  have := h9 _ hm
  simp only [mA] at this
  exact absurd this (by omega)
