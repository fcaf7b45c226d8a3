/-! THE LAW, its loop: an operation a six of the script, the class beside the reference -/
theorem Inv.tapes {σ σ2 : mS} (hi : Inv σ) (ha : Ag DE σ σ2) (hE : InvE σ2) : Inv σ2 := by
  have hs := ha.1
  have hk : Agk (fun a _ => DE a) σ (σ2.1, σ2.2.1, σ.2.2.1, σ2.2.2.2) :=
    ⟨⟨hs.1, hs.2.1, hs.2.2.1, hi.1.2.2.2.1, hs.2.2.2.2⟩, rfl, fun a k h => ha.i h k⟩
  refine ⟨hs, ?_, ?_, ?_, ?_, hE, ?_⟩
  · exact InvY.fr (σ' := (σ2.1, σ2.2.1, σ.2.2.1, σ2.2.2.2)) hi.2.1 hk (fun a k h => by unfold DE at h; unfold FYm FYx; omega)
  · exact InvI.fr (σ' := (σ2.1, σ2.2.1, σ.2.2.1, σ2.2.2.2)) hi.2.2.1 hk (fun a k h => by unfold DE at h; unfold FYx; omega)
  · exact InvB.fr (σ' := (σ2.1, σ2.2.1, σ.2.2.1, σ2.2.2.2)) hi.2.2.2.1 hk (fun a k h => by unfold DE at h; omega)
  · exact InvD.fr (σ' := (σ2.1, σ2.2.1, σ.2.2.1, σ2.2.2.2)) hi.2.2.2.2.1 hk (fun a k h => by unfold DE at h; omega)
  · exact InvF.fr (σ' := (σ2.1, σ2.2.1, σ.2.2.1, σ2.2.2.2)) hi.2.2.2.2.2.2 hk (fun a k h => by unfold DE at h; omega)
theorem BothI.weaker {X : mX} {d : Nat} {Mx Mm : mM} {as : List mV} {σ : mS} {P P' : mS → Prop} (h : BothI X d Mx Mm as σ P) (k : ∀ σ2, P σ2 → P' σ2) : BothI X d Mx Mm as σ P' :=
  CALL.mono h (fun _ _ ⟨z, e, hs1, hr, k1⟩ => ⟨z, e, hs1, hr, CALL.mono k1 (fun _ σ2 ⟨e', hp⟩ => ⟨e', k σ2 hp⟩)⟩)
theorem BothL.weaker {X : mX} {d : Nat} {Mx Mm : mM} {as : List mV} {σ : mS} {P P' : mS → Prop} (h : BothL X d Mx Mm as σ P) (k : ∀ σ2, P σ2 → P' σ2) : BothL X d Mx Mm as σ P' :=
  CALL.mono h (fun _ _ ⟨z, e, hs1, hr, k1⟩ => ⟨z, e, hs1, hr, CALL.mono k1 (fun _ σ2 ⟨e', hp⟩ => ⟨e', k σ2 hp⟩)⟩)
theorem BothI.dep {X : mX} {d d' : Nat} {Mx Mm : mM} {as : List mV} {σ : mS} {P : mS → Prop} (e : d = d') (h : BothI X d Mx Mm as σ P) : BothI X d' Mx Mm as σ P := e ▸ h
theorem BothL.dep {X : mX} {d d' : Nat} {Mx Mm : mM} {as : List mV} {σ : mS} {P : mS → Prop} (e : d = d') (h : BothL X d Mx Mm as σ P) : BothL X d' Mx Mm as σ P := e ▸ h
theorem law_I {X : mX} {d : Nat} {Mx Mm : mM} {as : List mV} {σ : mS} {N F : mS → Prop} (h : BothI X d Mx Mm as σ Inv) (n : ∀ σ2, Inv σ2 → N σ2) :
    CALL X d (0, 0) Mx (vP (some 0) :: as) σ (fun v σ1 => ∃ z : Int, v = some (vI z) ∧ Sh σ1 ∧ CALL X d (0, 0) Mm (vP (some 125) :: as) σ1 (fun v' σ2 => ∃ z' : Int, v' = some (vI z') ∧ Sh σ2 ∧ (-2147483648 ≤ z ∧ z ≤ 2147483647) ∧ (-2147483648 ≤ z' ∧ z' ≤ 2147483647) ∧ (z = z' → N σ2) ∧ (¬ z = z' → F σ2))) :=
  CALL.mono h (fun _ _ ⟨z, e, hs1, hr, k1⟩ => ⟨z, e, hs1, CALL.mono k1 (fun _ σ2 ⟨e', hp⟩ => ⟨z, e', hp.1, hr, hr, fun _ => n σ2 hp, fun q => absurd rfl q⟩)⟩)
theorem law_L {X : mX} {d : Nat} {Mx Mm : mM} {as : List mV} {σ : mS} {N F : mS → Prop} (h : BothL X d Mx Mm as σ Inv) (n : ∀ σ2, Inv σ2 → N σ2) :
    CALL X d (0, 0) Mx (vP (some 0) :: as) σ (fun v σ1 => ∃ z : Int, v = some (vL z) ∧ Sh σ1 ∧ CALL X d (0, 0) Mm (vP (some 125) :: as) σ1 (fun v' σ2 => ∃ z' : Int, v' = some (vL z') ∧ Sh σ2 ∧ (-9223372036854775808 ≤ z ∧ z ≤ 9223372036854775807) ∧ (-9223372036854775808 ≤ z' ∧ z' ≤ 9223372036854775807) ∧ (jcmp z z' = 0 → N σ2) ∧ (¬ jcmp z z' = 0 → F σ2))) :=
  CALL.mono h (fun _ _ ⟨z, e, hs1, hr, k1⟩ => ⟨z, e, hs1, CALL.mono k1 (fun _ σ2 ⟨e', hp⟩ => ⟨z, e', hp.1, hr, hr, fun _ => n σ2 hp, fun q => absurd (jcmp_eq.2 rfl) q⟩)⟩)
set_option maxHeartbeats 2000000 in
theorem law_loop {nm : String} {X : mX} {e : Nat} (hX1 : X.1 ≤ 4096) (hX2 : ∀ j, -2147483648 ≤ X.2 j ∧ X.2 j ≤ 2147483647) (hb : ∀ σ, Inv σ → BothI X (e + 60) MX10_border MX11_border [] σ Inv) {Q : Option mV → mS → Prop} (hQ : ∀ σ, Inv σ → Q (some (vI (bB true))) σ) :
    ∀ (m i : Nat) (σ : mS), X.1 ≤ i + m → i ≤ 8192 → Inv σ → WP X (e + 61) (0, 0) (MLn nm) 18 [(0, vO 0), (1, vP (some 0)), (2, vP (some 125)), (3, vI (i : Int))] [] σ Q := by
  intro m
  induction m using Nat.strongRecOn with
  | _ m ih =>
    intro i σ hm hi8 hi
    have hs := hi.1
    refine CN_L_law_18 (d := e + 60) hs ⟨by omega, by omega, fun _ => hQ σ hi, fun hn => ?_⟩
    have nx : ∀ σ2, Inv σ2 → WP X (e + 61) (0, 0) (MLn nm) 18 [(0, vO 0), (1, vP (some 0)), (2, vP (some 125)), (3, vI ((i : Int) + 6))] [] σ2 Q := fun σ2 h2 => by
      rw [show (i : Int) + 6 = ((i + 6 : Nat) : Int) by omega]
      exact ih (m - 6) (by omega) (i + 6) σ2 (by omega) (by omega) h2
    refine ⟨by omega, by omega, by omega, ?_⟩
    clear ih hm hi8
    refine ⟨?_, ?_, ?_, ?_, ?_, ?_, ?_, ?_, ?_, ?_, ?_, ?_, ?_, ?_, ?_, ?_, ?_, ?_, ?_, ?_, ?_, ?_, ?_, ?_, ?_, ?_, ?_, ?_, ?_, ?_, ?_, ?_, ?_, ?_⟩
    · exact fun _ => ⟨by omega, by omega, by omega, by omega, by omega, by omega, law_I (BothI.dep (show e + 57 + 3 = e + 60 by omega) (op_guard (d := e + 57) hi (hX2 _) (hX2 _) (hX2 _))) nx⟩
    · exact fun _ => ⟨by omega, by omega, by omega, by omega, law_I (BothI.dep (show e + 52 + 8 = e + 60 by omega) (op_of (d := e + 52) hi (hX2 _) (hX2 _))) nx⟩
    · exact fun _ => ⟨by omega, by omega, by omega, by omega, law_I (BothI.dep (show e + 57 + 3 = e + 60 by omega) (op_question (d := e + 57) hi (hX2 _) (hX2 _))) nx⟩
    · exact fun _ => ⟨by omega, by omega, by omega, by omega, law_I (BothI.dep (show e + 57 + 3 = e + 60 by omega) (op_sack (d := e + 57) hi (hX2 _) (hX2 _))) nx⟩
    · exact fun _ => ⟨by omega, by omega, by omega, by omega, law_I (BothI.dep (show e + 57 + 3 = e + 60 by omega) (op_know (d := e + 57) hi (hX2 _) (hX2 _))) nx⟩
    · exact fun _ => ⟨by omega, by omega, by omega, by omega, law_I (BothI.dep (show e + 57 + 3 = e + 60 by omega) (op_tire (d := e + 57) hi (hX2 _) (hX2 _))) nx⟩
    · exact fun _ => ⟨by omega, by omega, by omega, by omega, law_I (BothI.dep (show e + 57 + 3 = e + 60 by omega) (op_bring (d := e + 57) hi (hX2 _) (hX2 _))) nx⟩
    · exact fun _ => ⟨by omega, by omega, by omega, by omega, law_I (BothI.dep (show e + 52 + 8 = e + 60 by omega) (op_ask (d := e + 52) hi (hX2 _) (hX2 _))) nx⟩
    · exact fun _ => ⟨by omega, by omega, by omega, by omega, by omega, by omega, law_I (BothI.dep (show e + 57 + 3 = e + 60 by omega) (op_row (d := e + 57) hi (hX2 _) (hX2 _) (hX2 _))) nx⟩
    · exact fun _ => ⟨by omega, by omega, law_I (BothI.dep (show e + 59 + 1 = e + 60 by omega) (op_feed (d := e + 59) hi (hX2 _))) nx⟩
    · exact fun _ => law_I (hb σ hi) nx
    · exact fun _ => ⟨by omega, by omega, law_I (BothI.dep (show e + 45 + 15 = e + 60 by omega) (op_told (d := e + 45) hi (hX2 _))) nx⟩
    · exact fun _ => ⟨by omega, by omega, law_I (BothI.dep (show e + 50 + 10 = e + 60 by omega) (op_pass (d := e + 50) hi (hX2 _))) nx⟩
    · exact fun _ => ⟨by omega, by omega, by omega, by omega, law_I (BothI.dep (show e + 49 + 11 = e + 60 by omega) (op_on (d := e + 49) hi (hX2 _) (hX2 _))) nx⟩
    · exact fun _ => ⟨by omega, by omega, by omega, by omega, by omega, by omega, hX2 _, fun _ => law_I (BothI.dep (show e + 58 + 2 = e + 60 by omega) (op_hear (d := e + 58) hi (hX2 _) (hX2 _) (by decide))) nx, fun _ => law_I (BothI.dep (show e + 58 + 2 = e + 60 by omega) (op_hear (d := e + 58) hi (hX2 _) (hX2 _) (by decide))) nx⟩
    · exact fun _ => ⟨by omega, by omega, by omega, by omega, law_I (BothI.dep (show e + 52 + 8 = e + 60 by omega) (op_can (d := e + 52) hi (hX2 _) (hX2 _))) nx⟩
    · exact fun _ => ⟨by omega, by omega, by omega, by omega, by omega, by omega, law_L (BothL.dep (show e + 52 + 8 = e + 60 by omega) (op_odds (d := e + 52) hi (hX2 _) (hX2 _) (hX2 _))) nx⟩
    · exact fun _ => ⟨by omega, by omega, law_L (BothL.dep (show e + 57 + 3 = e + 60 by omega) (op_mean (d := e + 57) hi (hX2 _))) nx⟩
    · exact fun _ => ⟨by omega, by omega, by omega, by omega, law_I (BothI.dep (show e + 58 + 2 = e + 60 by omega) (op_plan (d := e + 58) hi (hX2 _) (hX2 _))) nx⟩
    · exact fun _ => ⟨by omega, by omega, law_I (BothI.dep (show e + 49 + 11 = e + 60 by omega) (op_ends (d := e + 49) hi (hX2 _))) nx⟩
    · exact fun _ => ⟨by omega, by omega, by omega, by omega, law_I (BothI.dep (show e + 58 + 2 = e + 60 by omega) (op_book (d := e + 58) hi (hX2 _) (hX2 _))) nx⟩
    · exact fun _ => law_I (BothI.dep (show e + 58 + 2 = e + 60 by omega) (op_looked (d := e + 58) hi )) nx
    · exact fun _ => ⟨by omega, by omega, by omega, by omega, law_I (BothI.dep (show e + 57 + 3 = e + 60 by omega) (op_judge (d := e + 57) hi (hX2 _) (hX2 _))) nx⟩
    · exact fun _ => law_I (BothI.dep (show e + 57 + 3 = e + 60 by omega) (op_image (d := e + 57) hi )) nx
    · exact fun _ => law_I (BothI.dep (show e + 57 + 3 = e + 60 by omega) (op_undo (d := e + 57) hi )) nx
    · exact fun _ => ⟨by omega, by omega, by omega, by omega, by omega, by omega, law_I (BothI.dep (show e + 44 + 16 = e + 60 by omega) (op_act (d := e + 44) hi (hX2 _) (hX2 _))) nx⟩
    · exact fun _ => ⟨by omega, by omega, law_I (BothI.dep (show e + 58 + 2 = e + 60 by omega) (op_trace (d := e + 58) hi (hX2 _))) nx⟩
    · exact fun _ => ⟨by omega, by omega, by omega, by omega, law_I (BothI.dep (show e + 57 + 3 = e + 60 by omega) (op_taken (d := e + 57) hi (hX2 _) (hX2 _))) nx⟩
    · exact fun _ => ⟨by omega, by omega, law_I (BothI.dep rfl (op_count (d := e + 60) hi (hX2 _))) nx⟩
    · exact fun _ => ⟨by omega, by omega, by omega, by omega, by omega, by omega, law_I (BothI.weaker (BothI.dep (show e + 58 + 2 = e + 60 by omega) (op_tape (d := e + 58) hs hi.2.2.2.2.2.1 (hX2 _) (hX2 _) (hX2 _))) (fun _ p => hi.tapes p.1 p.2)) nx⟩
    · exact fun _ => ⟨by omega, by omega, by omega, by omega, by omega, by omega, hX2 _, by omega, by omega, hX2 _, law_I (BothI.weaker (BothI.dep (show e + 58 + 2 = e + 60 by omega) (op_item (d := e + 58) hs hi.2.2.2.2.2.1 (hX2 _) (hX2 _) (jor_r _ _))) (fun _ p => hi.tapes p.1 p.2)) nx⟩
    · exact fun _ => ⟨by omega, by omega, by omega, by omega, law_L (BothL.weaker (BothL.dep (show e + 58 + 2 = e + 60 by omega) (op_read (d := e + 58) hs hi.2.2.2.2.2.1 (hX2 _) (hX2 _))) (fun _ p => p.symm ▸ hi)) nx⟩
    · exact fun _ => ⟨by omega, by omega, by omega, by omega, by omega, by omega, by omega, by omega, by omega, by omega, law_I (BothI.weaker (BothI.dep (show e + 58 + 2 = e + 60 by omega) (op_shift (d := e + 58) hs hi.2.2.2.2.2.1 (hX2 _) (hX2 _) (hX2 _) (hX2 _) (hX2 _))) (fun _ p => hi.tapes p.1 p.2)) nx⟩
    · exact fun _ => nx σ hi
