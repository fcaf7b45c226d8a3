/-! MACHINE LAYER, 1: values, the state as functions, the world, what a walk and a call are -/
def mT : List Cond := lw_tbl.filter goodWord
theorem mT_in {w : Cond} (i : Nat) (h : lw_tbl[i]? = some w) (hg : goodWord w = true) : w ∈ mT := List.mem_filter.mpr ⟨List.mem_of_getElem? h, hg⟩
theorem mT_good {y : MethodName} {cc : ByteArray} {n : Nat} {r : Option FieldType} (h : Cond.code y cc n r ∈ mT) : GoodIn mT (Cond.code y cc n r :: mT) := fun w hw => by
  rcases List.mem_cons.mp hw with rfl | hw
  · exact ⟨h, good_of_word (List.mem_filter.mp h).2⟩
  · exact ⟨hw, good_of_word (List.mem_filter.mp hw).2⟩
/-- values: ints, longs, references to cells of the world (none: null), references to what nobody writes -/
abbrev mV : Type := Int ⊕ Int ⊕ Option Nat ⊕ Nat
abbrev vI (z : Int) : mV := .inl z
abbrev vL (z : Int) : mV := .inr (.inl z)
abbrev vP (r : Option Nat) : mV := .inr (.inr (.inl r))
abbrev vO (k : Nat) : mV := .inr (.inr (.inr k))
abbrev mG : Type := va_G × (Nat → ClassId) × Nat × (Nat → Option Nat)
def rv (g : mG) : mV → Value
  | .inl z => .int (Int32.ofInt z)
  | .inr (.inl z) => .long (Int64.ofInt z)
  | .inr (.inr (.inl r)) => va_rf (r.map (g.2.2.1 + ·))
  | .inr (.inr (.inr k)) => va_rf (g.2.2.2 k)
def mC : mV → Nat
  | .inr (.inl _) => 2
  | _ => 1
theorem rv_cat (g : mG) (v : mV) : (rv g v).category = mC v := by
  rcases v with z | z | r | k
  · rfl
  · rfl
  · cases r <;> rfl
  · simp only [rv, mC]; cases g.2.2.2 k <;> rfl
/-- the state: the kinds of the cells (below 50: an object of that class; else an array of that sort and its length), ints, longs, references -/
abbrev mS : Type := List (Nat × Nat) × (Nat → Nat → Int) × (Nat → Nat → Int) × (Nat → Nat → Option Nat)
def mU {α : Type} (f : Nat → Nat → α) (a k : Nat) (v : α) : Nat → Nat → α := fun b j => if b = a ∧ j = k then v else f b j
def sI (σ : mS) (a k : Nat) (z : Int) : mS := (σ.1, mU σ.2.1 a k z, σ.2.2.1, σ.2.2.2)
def sL (σ : mS) (a k : Nat) (z : Int) : mS := (σ.1, σ.2.1, mU σ.2.2.1 a k z, σ.2.2.2)
def sR (σ : mS) (a k : Nat) (r : Option Nat) : mS := (σ.1, σ.2.1, σ.2.2.1, mU σ.2.2.2 a k r)
theorem mU_ne {α : Type} (f : Nat → Nat → α) (a k : Nat) (v : α) {b : Nat} (h : b ≠ a) : mU f a k v b = f b := by
  funext j; simp [mU, h]
theorem mU_at {α : Type} (f : Nat → Nat → α) (a k : Nat) (v : α) (j : Nat) : mU f a k v a j = if j = k then v else f a j := by simp [mU]
def mFT (c : Nat) : List Nat := match c with
  | 0 => [2, 0, 0, 0, 0]
  | 1 => [2, 2, 0, 0]
  | 2 => [2, 2, 2, 2, 2, 2, 0]
  | 3 => [0, 0, 0, 0, 2]
  | 4 => [0, 0, 0, 0]
  | 5 => [2, 0, 0, 0, 0, 2]
  | 6 => [2, 0, 0]
  | 7 => [2, 0]
  | 8 => [2, 0, 0]
  | 9 => [2, 2, 2, 2, 2, 0, 0, 0, 3]
  | 10 => [2, 2, 2, 2, 2, 2, 2, 2, 0]
  | 11 => [0, 2, 2, 2, 2, 2, 0, 2, 2, 2, 2, 0, 0, 2, 0, 0, 0, 0, 0, 0, 2, 2, 2, 2, 2, 2, 0, 2, 0, 2, 2, 2, 0, 2, 2, 0, 2, 2, 0, 2, 0, 2, 2, 2, 2, 0, 2, 2, 2]
  | _ => []
def mty (t : Nat) : FieldType := match t with
  | 0 => .int
  | 1 => .byte
  | 2 => .boolean
  | 3 => .long
  | 4 => .object RX3
  | 5 => .object RX4
  | 6 => .object RX1
  | _ => .object RX8
/-- which BORDER a yard has: its number kept as an int, -1 for none -/
def hB (z : Int) : Option Nat := if z < 0 then none else some (85 + 3 * z.toNat)
def mval (g : mG) (σ : mS) (a k t : Nat) : Value := match t with
  | 1 => .long (Int64.ofInt (σ.2.2.1 a k))
  | 2 => va_rf ((σ.2.2.2 a k).map (g.2.2.1 + ·))
  | 3 => va_rf ((hB (σ.2.1 a k)).map (g.2.2.1 + ·))
  | _ => .int (Int32.ofInt (σ.2.1 a k))
def mfv (σ : mS) (a k t : Nat) : mV := match t with
  | 1 => vL (σ.2.2.1 a k)
  | 2 => vP (σ.2.2.2 a k)
  | 3 => vP (hB (σ.2.1 a k))
  | _ => vI (σ.2.1 a k)
theorem rv_mfv (g : mG) (σ : mS) (a k t : Nat) : rv g (mfv σ a k t) = mval g σ a k t := by
  unfold mfv mval; split <;> rfl
def marr (g : mG) (σ : mS) (a t n : Nat) : vp_A := (n, if t = 3 then .inr (.inl fun j => Int64.ofInt (σ.2.2.1 a j)) else if 4 ≤ t then .inr (.inr (.inr (.inr fun j => (σ.2.2.2 a j).map (g.2.2.1 + ·)))) else .inl fun j => Int32.ofInt (σ.2.1 a j))
def mcell (g : mG) (σ : mS) (a : Nat) (kd : Nat × Nat) : va_E :=
  if kd.1 < 50 then .inr (kd.1, (mFT kd.1).mapIdx (fun k t => mval g σ a k t)) else .inl (g.2.1 (kd.1 - 50), marr g σ a (kd.1 - 50) kd.2)
def mW (g : mG) (σ : mS) : va_W := σ.1.mapIdx (fun a kd => (g.2.2.1 + a, mcell g σ a kd))
theorem mW_get {g : mG} {σ : mS} {a : Nat} {kd : Nat × Nat} (h : σ.1[a]? = some kd) : (mW g σ)[a]? = some (g.2.2.1 + a, mcell g σ a kd) := by simp [mW, h]
theorem mW_of {g : mG} {σ : mS} {a : Nat} {q : Nat × va_E} (h : (mW g σ)[a]? = some q) : ∃ kd, σ.1[a]? = some kd ∧ q = (g.2.2.1 + a, mcell g σ a kd) := by
  simp only [mW, List.getElem?_mapIdx, Option.map_eq_some_iff] at h
  obtain ⟨kd, h1, h2⟩ := h
  exact ⟨kd, h1, h2.symm⟩
theorem mW_set {g : mG} {σ σ' : mS} {a : Nat} {kd : Nat × Nat} {e : va_E} (hσ : σ'.1 = σ.1) (h : σ.1[a]? = some kd) (he : mcell g σ' a kd = e) (ho : ∀ b kd', b ≠ a → mcell g σ' b kd' = mcell g σ b kd') : (mW g σ).set a (g.2.2.1 + a, e) = mW g σ' := by
  apply List.ext_getElem?
  intro b
  rw [List.getElem?_set]
  have hl : (mW g σ).length = σ.1.length := by simp [mW]
  by_cases hb : a = b
  · subst hb
    have hlt : a < σ.1.length := (List.getElem?_eq_some_iff.mp h).1
    rw [if_pos rfl, if_pos (by rw [hl]; exact hlt), mW_get (σ := σ') (kd := kd) (by rw [hσ]; exact h), he]
  · rw [if_neg hb]
    simp only [mW, List.getElem?_mapIdx, hσ]
    cases hq : σ.1[b]? with
    | none => rfl
    | some kd' => simp only [Option.map_some]; rw [ho b kd' (fun h => hb h.symm)]
def mA (g : mG) : Nat → Prop := fun q => g.2.2.1 ≤ q
theorem mD (g : mG) (σ : mS) : va_D (mA g) (mW g σ) := by
  refine ⟨fun i j p q hi hj hpq => ?_, fun k q hk => ?_⟩
  · obtain ⟨_, -, rfl⟩ := mW_of hi
    obtain ⟨_, -, rfl⟩ := mW_of hj
    have : g.2.2.1 + i = g.2.2.1 + j := hpq
    omega
  · obtain ⟨_, -, rfl⟩ := mW_of hk
    exact Nat.le_add_right _ _
def mH (g : mG) (σ : mS) (H : Heap) : Prop := va_P g.1 vwCl (mW g σ) H
def mTys (g : mG) : List (ClassId × FieldType) := [(g.2.1 0, mty 0), (g.2.1 1, mty 1), (g.2.1 2, mty 2), (g.2.1 3, mty 3), (g.2.1 4, mty 4), (g.2.1 5, mty 5), (g.2.1 6, mty 6), (g.2.1 7, mty 7)]
theorem mTys_at (g : mG) {t : Nat} (h : t < 8) : (mTys g)[t]? = some (g.2.1 t, mty t) := by
  rcases t with _ | _ | _ | _ | _ | _ | _ | _ | t <;> first | rfl | omega
/-- cells that don't hang on what changed -/
theorem mcell_mi {g : mG} {σ σ' : mS} {b : Nat} (h1 : σ'.2.1 b = σ.2.1 b) (h2 : σ'.2.2.1 b = σ.2.2.1 b) (h3 : σ'.2.2.2 b = σ.2.2.2 b) (kd : Nat × Nat) : mcell g σ' b kd = mcell g σ b kd := by
  unfold mcell marr mval
  rw [h1, h2, h3]
theorem mcell_obj {g : mG} {σ : mS} {a ci n : Nat} (h : ci < 50) : mcell g σ a (ci, n) = .inr (ci, (mFT ci).mapIdx (fun k t => mval g σ a k t)) := by
  unfold mcell; rw [if_pos h]
theorem mcell_arr {g : mG} {σ : mS} {a t n : Nat} : mcell g σ a (50 + t, n) = .inl (g.2.1 t, marr g σ a t n) := by
  unfold mcell; rw [if_neg (by show ¬ 50 + t < 50; omega)]
  show Sum.inl (g.2.1 (50 + t - 50), marr g σ a (50 + t - 50) n) = _
  rw [show 50 + t - 50 = t by omega]
/-- the fields behind a store -/
theorem mval_setI {g : mG} {σ : mS} {a k : Nat} {z : Int} {L : List Nat} (h : L[k]? = some 0) : (L.mapIdx (fun j t => mval g σ a j t)).set k (.int (Int32.ofInt z)) = L.mapIdx (fun j t => mval g (sI σ a k z) a j t) := by
  apply List.ext_getElem?
  intro j
  rw [List.getElem?_set]
  simp only [List.length_mapIdx, List.getElem?_mapIdx]
  by_cases hj : k = j
  · subst hj
    rw [if_pos rfl, if_pos (List.getElem?_eq_some_iff.mp h).1, h]
    simp [mval, sI, mU]
  · rw [if_neg hj]
    cases L[j]? with
    | none => rfl
    | some t =>
      simp only [Option.map_some, mval, sI]
      split
      · rfl
      · rfl
      · rw [mU_at, if_neg (fun h => hj h.symm)]
      · rw [mU_at, if_neg (fun h => hj h.symm)]
theorem mval_setR {g : mG} {σ : mS} {a k : Nat} {r : Option Nat} {L : List Nat} (h : L[k]? = some 2) : (L.mapIdx (fun j t => mval g σ a j t)).set k (va_rf (r.map (g.2.2.1 + ·))) = L.mapIdx (fun j t => mval g (sR σ a k r) a j t) := by
  apply List.ext_getElem?
  intro j
  rw [List.getElem?_set]
  simp only [List.length_mapIdx, List.getElem?_mapIdx]
  by_cases hj : k = j
  · subst hj
    rw [if_pos rfl, if_pos (List.getElem?_eq_some_iff.mp h).1, h]
    simp [mval, sR, mU]
  · rw [if_neg hj]
    cases L[j]? with
    | none => rfl
    | some t =>
      simp only [Option.map_some, mval, sR]
      split
      · rfl
      · rw [mU_at, if_neg (fun h => hj h.symm)]
      · rfl
      · rfl
theorem mval_setH {g : mG} {σ : mS} {a k : Nat} {z : Int} {L : List Nat} (h : L[k]? = some 3) : (L.mapIdx (fun j t => mval g σ a j t)).set k (va_rf ((hB z).map (g.2.2.1 + ·))) = L.mapIdx (fun j t => mval g (sI σ a k z) a j t) := by
  apply List.ext_getElem?
  intro j
  rw [List.getElem?_set]
  simp only [List.length_mapIdx, List.getElem?_mapIdx]
  by_cases hj : k = j
  · subst hj
    rw [if_pos rfl, if_pos (List.getElem?_eq_some_iff.mp h).1, h]
    simp [mval, sI, mU]
  · rw [if_neg hj]
    cases L[j]? with
    | none => rfl
    | some t =>
      simp only [Option.map_some, mval, sI]
      split
      · rfl
      · rfl
      · rw [mU_at, if_neg (fun h => hj h.symm)]
      · rw [mU_at, if_neg (fun h => hj h.symm)]
theorem mH_putI {g : mG} {σ : mS} {a ci n k : Nat} {z : Int} (ha : σ.1[a]? = some (ci, n)) (h5 : ci < 50) (hft : (mFT ci)[k]? = some 0) : (mW g σ).set a (g.2.2.1 + a, .inr (ci, ((mFT ci).mapIdx (fun k t => mval g σ a k t)).set k (.int (Int32.ofInt z)))) = mW g (sI σ a k z) := by
  refine mW_set rfl ha ?_ (fun b kd' hb => mcell_mi (σ := σ) (σ' := sI σ a k z) (mU_ne _ _ _ _ hb) rfl rfl kd')
  rw [mcell_obj h5, mval_setI hft]
theorem mH_putR {g : mG} {σ : mS} {a ci n k : Nat} {r : Option Nat} (ha : σ.1[a]? = some (ci, n)) (h5 : ci < 50) (hft : (mFT ci)[k]? = some 2) : (mW g σ).set a (g.2.2.1 + a, .inr (ci, ((mFT ci).mapIdx (fun k t => mval g σ a k t)).set k (va_rf (r.map (g.2.2.1 + ·))))) = mW g (sR σ a k r) := by
  refine mW_set rfl ha ?_ (fun b kd' hb => mcell_mi (σ := σ) (σ' := sR σ a k r) rfl rfl (mU_ne _ _ _ _ hb) kd')
  rw [mcell_obj h5, mval_setR hft]
theorem mH_putH {g : mG} {σ : mS} {a ci n k : Nat} {z : Int} (ha : σ.1[a]? = some (ci, n)) (h5 : ci < 50) (hft : (mFT ci)[k]? = some 3) : (mW g σ).set a (g.2.2.1 + a, .inr (ci, ((mFT ci).mapIdx (fun k t => mval g σ a k t)).set k (va_rf ((hB z).map (g.2.2.1 + ·))))) = mW g (sI σ a k z) := by
  refine mW_set rfl ha ?_ (fun b kd' hb => mcell_mi (σ := σ) (σ' := sI σ a k z) (mU_ne _ _ _ _ hb) rfl rfl kd')
  rw [mcell_obj h5, mval_setH hft]
theorem marr_lo {g : mG} {σ : mS} {a t n : Nat} (h : t < 3) : marr g σ a t n = (n, .inl fun j => Int32.ofInt (σ.2.1 a j)) := by
  unfold marr; rw [if_neg (by omega), if_neg (by omega)]
theorem marr_3 {g : mG} {σ : mS} {a n : Nat} : marr g σ a 3 n = (n, .inr (.inl fun j => Int64.ofInt (σ.2.2.1 a j))) := by
  unfold marr; rw [if_pos rfl]
theorem marr_hi {g : mG} {σ : mS} {a t n : Nat} (h : 4 ≤ t) : marr g σ a t n = (n, .inr (.inr (.inr (.inr fun j => (σ.2.2.2 a j).map (g.2.2.1 + ·))))) := by
  unfold marr; rw [if_neg (by omega), if_pos h]
theorem mH_astI {g : mG} {σ : mS} {a t n k : Nat} {z : Int} (ha : σ.1[a]? = some (50 + t, n)) (ht : t < 3) : (mW g σ).set a (g.2.2.1 + a, .inl (g.2.1 t, n, .inl (upd (fun j => Int32.ofInt (σ.2.1 a j)) k (Int32.ofInt z)))) = mW g (sI σ a k z) := by
  refine mW_set rfl ha ?_ (fun b kd' hb => mcell_mi (σ := σ) (σ' := sI σ a k z) (mU_ne _ _ _ _ hb) rfl rfl kd')
  rw [mcell_arr, marr_lo ht]
  congr 4
  funext j
  simp only [sI, mU_at, upd]
  split <;> rfl
theorem mH_astL {g : mG} {σ : mS} {a n k : Nat} {z : Int} (ha : σ.1[a]? = some (53, n)) : (mW g σ).set a (g.2.2.1 + a, .inl (g.2.1 3, n, .inr (.inl (vp_updL (fun j => Int64.ofInt (σ.2.2.1 a j)) k (Int64.ofInt z))))) = mW g (sL σ a k z) := by
  refine mW_set rfl ha ?_ (fun b kd' hb => mcell_mi (σ := σ) (σ' := sL σ a k z) rfl (mU_ne _ _ _ _ hb) rfl kd')
  rw [show ((53 : Nat), n) = (50 + 3, n) from rfl, mcell_arr, marr_3]
  congr 5
  funext j
  simp only [sL, mU_at, vp_updL]
  split <;> rfl
theorem mH_astR {g : mG} {σ : mS} {a t n k : Nat} {v : Nat} (ha : σ.1[a]? = some (50 + t, n)) (ht : 4 ≤ t) : (mW g σ).set a (g.2.2.1 + a, .inl (g.2.1 t, n, .inr (.inr (.inr (.inr (va_up (fun j => (σ.2.2.2 a j).map (g.2.2.1 + ·)) k (some (g.2.2.1 + v)))))))) = mW g (sR σ a k (some v)) := by
  refine mW_set rfl ha ?_ (fun b kd' hb => mcell_mi (σ := σ) (σ' := sR σ a k (some v)) rfl rfl (mU_ne _ _ _ _ hb) kd')
  rw [mcell_arr, marr_hi ht]
  congr 8
  funext j
  simp only [sR, mU_at, va_up]
  split <;> rfl
/-- a new cell behind the others: what was stored under its number before is of no account -/
def dI (kd : Nat × Nat) (j : Nat) : Int := if kd.1 = 9 then (if j = 8 then -1 else 0) else 0
def mNew (σ : mS) (kd : Nat × Nat) : mS := (σ.1 ++ [kd], (fun b j => if b = σ.1.length then dI kd j else σ.2.1 b j), (fun b j => if b = σ.1.length then 0 else σ.2.2.1 b j), fun b j => if b = σ.1.length then none else σ.2.2.2 b j)
theorem mW_new {g : mG} {σ : mS} {kd : Nat × Nat} {e : va_E} (he : mcell g (mNew σ kd) σ.1.length kd = e) : mW g σ ++ [(g.2.2.1 + σ.1.length, e)] = mW g (mNew σ kd) := by
  apply List.ext_getElem?
  intro b
  have hl : (mW g σ).length = σ.1.length := by simp [mW]
  rw [List.getElem?_append, hl]
  simp only [mW, List.getElem?_mapIdx]
  by_cases hb : b < σ.1.length
  · rw [if_pos hb]
    have h1 : (mNew σ kd).1[b]? = σ.1[b]? := by simp only [mNew]; rw [List.getElem?_append_left hb]
    rw [h1]
    cases hq : σ.1[b]? with
    | none => rfl
    | some kd' =>
      simp only [Option.map_some]
      rw [mcell_mi (σ := σ) (σ' := mNew σ kd) (b := b) (by funext j; simp [mNew, Nat.ne_of_lt hb]) (by funext j; simp [mNew, Nat.ne_of_lt hb]) (by funext j; simp [mNew, Nat.ne_of_lt hb])]
  · rw [if_neg hb]
    have h1 : (mNew σ kd).1[b]? = [kd][b - σ.1.length]? := by simp only [mNew]; rw [List.getElem?_append_right (by omega)]
    rw [h1]
    by_cases hz : b = σ.1.length
    · subst hz
      simp [he]
    · rw [show b - σ.1.length = (b - σ.1.length - 1) + 1 by omega]
      simp
