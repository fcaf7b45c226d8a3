/-! BORDER, 2: the String constants: length, charAt, indexOf -/
section STRS
variable {X : mX} {d : Nat} {σ : mS} {Q : Option mV → mS → Prop}
theorem strK_len {k : Nat} (h : 1 ≤ k ∧ k ≤ 6) : bshr ((strB k).length : Int) 0 = (strB k).length ∧ (3 ≤ (strB k).length ∧ (strB k).length ≤ 10) := by
  have : k = 1 ∨ k = 2 ∨ k = 3 ∨ k = 4 ∨ k = 5 ∨ k = 6 := by omega
  rcases this with rfl | rfl | rfl | rfl | rfl | rfl <;> decide +kernel
theorem strK_at {k : Nat} (h : 1 ≤ k ∧ k ≤ 6) : ∀ j, j < (strB k).length → bc16 (band ((strB k).getD j 0) 255) = (strB k).getD j 0 ∧ (32 ≤ (strB k).getD j 0 ∧ (strB k).getD j 0 ≤ 127) := by
  have : k = 1 ∨ k = 2 ∨ k = 3 ∨ k = 4 ∨ k = 5 ∨ k = 6 := by omega
  rcases this with rfl | rfl | rfl | rfl | rfl | rfl <;> decide +kernel
theorem bi8_low {x : Int} (h : 0 ≤ x ∧ x ≤ 127) : bi8 x = x := by
  have : ∀ n : Nat, n < 128 → bi8 (n : Int) = (n : Int) := by decide +kernel
  have e := this x.toNat (by omega)
  rw [show ((x.toNat : Nat) : Int) = x by omega] at e
  exact e
theorem s_len {k : Nat} (h : 1 ≤ k ∧ k ≤ 6) (hQ : Q (some (vI ((strB k).length : Int))) σ) : CALL X (d + 1) (0, 0) MJ0_length_8abf5 [vO k] σ Q := by
  refine B_J0_length_8abf5 ⟨h.1, h.2, h.1, h.2, h.1, h.2, B_J0_coder_7d493 ⟨h.1, h.2, _, rfl, ?_⟩⟩
  rw [(strK_len h).1]
  exact hQ
theorem s_at {k : Nat} {x : Int} (h : 1 ≤ k ∧ k ≤ 6) (hx : 0 ≤ x ∧ x < ((strB k).length : Int)) (hQ : Q (some (vI ((strB k).getD x.toNat 0))) σ) : CALL X (d + 3) (0, 0) MJ0_charAt_5068e [vO k, vI x] σ Q := by
  have hl := (strK_len h).2
  obtain ⟨e, r⟩ := strK_at h x.toNat (by omega)
  refine B_J0_charAt_5068e (d := d + 2) ⟨h.1, h.2, B_J0_isLatin1_aae02 ⟨h.1, h.2, true, rfl, (fun q => nomatch q), fun _ => ⟨h.1, h.2, B_J1_charAt_3b067 (d := d + 1) ⟨h.1, h.2, B_J0_checkIndex_df160 (d := d) (B_J3_checkIndex_8e157 ⟨by omega, fun q => absurd q (by omega), fun _ => ⟨by omega, by omega, fun _ => ⟨_, rfl, rfl, h.1, h.2, hx.1, hx.2, ?_, ?_⟩, fun q => absurd hx.2 q⟩⟩)⟩⟩⟩⟩
  · rw [e]; omega
  · rw [e]
    exact ⟨_, rfl, by omega, hQ⟩
theorem s_loop {k : Nat} {z : Int} (h : 1 ≤ k ∧ k ≤ 6) (hz : 0 ≤ z ∧ z ≤ 127) : ∀ (m i : Nat), i + m = (strB k).length → Q (some (vI (plc ((strB k).drop i) z i))) σ → WP X d (0, 0) MJ1_indexOfChar_4cfef 7 [(0, vO (20 + k)), (3, vI ((strB k).length : Int)), (4, vI z), (5, vI (i : Int))] [] σ Q := by
  have hl := (strK_len h).2
  intro m
  induction m with
  | zero =>
    intro i hi hQ
    refine B_J1_indexOfChar_4cfef_7 ⟨by omega, by omega, fun _ => ?_, fun q => absurd q (by omega)⟩
    rw [List.drop_eq_nil_of_le (by omega)] at hQ
    exact hQ
  | succ m ih =>
    intro i hi hQ
    obtain ⟨_, r⟩ := strK_at h i (by omega)
    have hd : (strB k).drop i = (strB k).getD i 0 :: (strB k).drop (i + 1) := by
      rw [List.drop_eq_getElem_cons (by omega)]
      congr 1
      rw [List.getD_eq_getElem?_getD, List.getElem?_eq_getElem (by omega)]
      rfl
    rw [hd] at hQ
    unfold plc at hQ
    refine B_J1_indexOfChar_4cfef_7 ⟨by omega, by omega, fun q => absurd q (by omega), fun _ => ⟨h.1, h.2, by omega, by omega, ?_, by omega, fun q => ?_, fun q => ?_⟩⟩
    · rw [show ((i : Nat) : Int).toNat = i by omega]; omega
    · rw [show ((i : Nat) : Int).toNat = i by omega] at q
      rw [if_neg q] at hQ
      exact ih (i + 1) (by omega) hQ
    · rw [show ((i : Nat) : Int).toNat = i by omega] at q
      rw [if_pos q] at hQ
      exact hQ
theorem s_index {k : Nat} {z : Int} (h : 1 ≤ k ∧ k ≤ 6) (hz : 0 ≤ z ∧ z ≤ 127) (hQ : Q (some (vI (plc (strB k) z 0))) σ) : CALL X (d + 3) (0, 0) MJ0_indexOf_0f7a4 [vO k, vI z] σ Q := by
  have hl := (strK_len h).2
  refine B_J0_indexOf_0f7a4 (d := d + 2) ⟨h.1, h.2, B_J0_indexOf_7cf53 (d := d + 1) ⟨h.1, h.2, B_J0_isLatin1_aae02 ⟨h.1, h.2, true, rfl, (fun q => nomatch q), fun _ => ⟨h.1, h.2, h.1, h.2, s_len h ⟨_, rfl, B_J1_indexOf_4cfef (d := d) (B_J1_canEncode_9a6ad ⟨by omega, fun q => absurd q (by omega), fun _ => ⟨by omega, fun q => absurd q (by omega), fun _ => ⟨true, rfl, (fun q => nomatch q), fun _ => ⟨by omega, h.1, h.2, by omega, by omega, by omega, by omega, fun _ => B_J1_indexOfChar_4cfef ?_, fun q => absurd q (by omega)⟩⟩⟩⟩)⟩⟩⟩⟩⟩
  have hw := s_loop (X := X) (d := d) (σ := σ) (k := k) (z := z) (Q := fun v s => ∃ w : Int, v = some (vI w) ∧ ∃ w1 : Int, some (vI w) = some (vI w1) ∧ ∃ w2 : Int, some (vI w1) = some (vI w2) ∧ Q (some (vI w2)) s) h hz (strB k).length 0 (by omega) ⟨_, rfl, _, rfl, _, rfl, hQ⟩
  rw [bi8_low hz, show max (0 : Int) 0 = 0 by omega, show min ((strB k).length : Int) ((strB k).length : Int) = (strB k).length by omega]
  exact hw
end STRS
