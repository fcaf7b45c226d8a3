/-! MACHINE LAYER, 5: an object's own beginning, System.arraycopy -/
def mCpI (σ : mS) (a0 sp a dp n : Nat) : mS := (σ.1, (fun b j => if b = a ∧ dp ≤ j ∧ j < dp + n then σ.2.1 a0 (sp + (j - dp)) else σ.2.1 b j), σ.2.2.1, σ.2.2.2)
def mCpL (σ : mS) (a0 sp a dp n : Nat) : mS := (σ.1, σ.2.1, (fun b j => if b = a ∧ dp ≤ j ∧ j < dp + n then σ.2.2.1 a0 (sp + (j - dp)) else σ.2.2.1 b j), σ.2.2.2)
theorem mH_cpI {g : mG} {σ : mS} {a0 sp a dp k n : Nat} (ha : σ.1[a]? = some (50, n)) : (mW g σ).set a (g.2.2.1 + a, .inl (g.2.1 0, n, .inl (va_cpy (fun j => Int32.ofInt (σ.2.1 a0 j)) (fun j => Int32.ofInt (σ.2.1 a j)) sp dp k))) = mW g (mCpI σ a0 sp a dp k) := by
  refine mW_set rfl ha ?_ (fun b kd' hb => mcell_mi (σ := σ) (σ' := mCpI σ a0 sp a dp k) (by funext j; simp [mCpI, hb]) rfl rfl kd')
  rw [show ((50 : Nat), n) = (50 + 0, n) from rfl, mcell_arr, marr_lo (by decide)]
  congr 4
  funext j
  simp only [mCpI, va_cpy, true_and]
  split <;> rfl
theorem mH_cpL {g : mG} {σ : mS} {a0 sp a dp k n : Nat} (ha : σ.1[a]? = some (53, n)) : (mW g σ).set a (g.2.2.1 + a, .inl (g.2.1 3, n, .inr (.inl (va_cpy (fun j => Int64.ofInt (σ.2.2.1 a0 j)) (fun j => Int64.ofInt (σ.2.2.1 a j)) sp dp k)))) = mW g (mCpL σ a0 sp a dp k) := by
  refine mW_set rfl ha ?_ (fun b kd' hb => mcell_mi (σ := σ) (σ' := mCpL σ a0 sp a dp k) rfl (by funext j; simp [mCpL, hb]) rfl kd')
  rw [show ((53 : Nat), n) = (50 + 3, n) from rfl, mcell_arr, marr_3]
  congr 5
  funext j
  simp only [mCpL, va_cpy, true_and]
  split <;> rfl
section COPY
variable {X : mX} {d : Nat} {b : Nat × Nat} {M : mM} {pc pc' : Nat} {l : List (Nat × mV)} {st : List mV} {σ : mS} {Q : Option mV → mS → Prop}
theorem r_objInit {rr : Option Nat} {idx a : Nat} (hd : decode M.1 pc = .ok (.invokespecial idx, 3)) (hp : pc + 3 = pc') (er : rr = some a) (hw : Cond.methodLink M.2.1.cls idx Lib.objectInit ∈ mT) (hi : Cond.instanceMethod Lib.objectInit ∈ mT) (hc : Cond.code Lib.objectInit ⟨#[0xb1]⟩ 1 none ∈ mT) (hrest : (st.map mC).sum ≤ 8) (kk : WP X (d + 1) b M pc' l st σ Q) : WP X (d + 1) b M pc l (vP rr :: st) σ Q := by
  subst er
  subst hp
  intro g R p lau e s m args below meth c H locs cells slots mc ms real hC h1 h2 hE hH hS hr
  have hR := hC.2.2.2.2.2.2.2.2.2.2.2
  refine W.objInit hC.1 hC.2.1 hC.2.2.2.2.1 (hC.2.2.2.2.2.2.2.1 _ hw) (hC.2.2.2.2.2.2.2.1 _ hi) (hC.2.2.2.2.2.2.2.1 _ hc) rfl (hr.1.trans hC.2.2.2.1.symm) rfl hd (by omega) ?_ ?_
  · rw [rest_cat]
    show 2 * 0 + _ + 12 ≤ _
    omega
  · exact W.eq (g2 := F0 m (pc + 3) real (st.map (rv g))) rfl (kk g R p lau e s m args below meth c H locs cells slots mc ms real hC h1 h2 hE hH hS hr)
theorem nfw : nativeFrameWords "java/lang/System" "arraycopy" 5 ≤ 30 := by decide +kernel
theorem r_copyI {rr rq : Option Nat} {idx a0 a n0 n1 : Nat} {sp dp n : Int} (hd : decode M.1 pc = .ok (.invokestatic idx, 3)) (hp : pc + 3 = pc') (hw : Cond.methodLink M.2.1.cls idx arraycopyName ∈ mT) (hnt : Cond.native arraycopyName ∈ mT) (hstt : Cond.static arraycopyName ∈ mT) (hini : Cond.initialized "java/lang/System" ∈ mT) (er : rr = some a0) (eq : rq = some a) (ha0 : σ.1[a0]? = some (50, n0)) (ha : σ.1[a]? = some (50, n1)) (hsp : 0 ≤ sp) (hdp : 0 ≤ dp) (hn : 0 ≤ n) (hl0 : sp + n ≤ n0) (hl1 : dp + n ≤ n1) (hn0 : n0 ≤ 2147483647) (hn1 : n1 ≤ 2147483647) (hrest : (st.map mC).sum ≤ 8) (kk : WP X (d + 1) b M pc' l st (mCpI σ a0 sp.toNat a dp.toNat n.toNat) Q) : WP X (d + 1) b M pc l (vI n :: vI dp :: vP rq :: vI sp :: vP rr :: st) σ Q := by
  subst er
  subst eq
  subst hp
  intro g R p lau e s m args below meth c H locs cells slots mc ms real hC h1 h2 hE hH hS hr
  have hR := hC.2.2.2.2.2.2.2.2.2.2.2
  have hf := nfw
  have e1 : (Int32.ofInt sp).toNatClampNeg = sp.toNat := iI_clamp hsp (by omega)
  have e2 : (Int32.ofInt dp).toNatClampNeg = dp.toNat := iI_clamp hdp (by omega)
  have e3 : (Int32.ofInt n).toNatClampNeg = n.toNat := iI_clamp hn (by omega)
  have nn : ∀ z : Int, 0 ≤ z → z ≤ 2147483647 → ¬ Int32.ofInt z < 0 := fun z h1 h2 => by rw [iI_0, iI_lt ⟨by omega, h2⟩ iI_z]; omega
  refine va_copyi hC.1 hC.2.1 (hC.2.2.2.1.trans hr.1.symm) hC.2.2.2.2.1 (hC.2.2.2.2.2.2.2.1 _ hw) (hC.2.2.2.2.2.2.2.1 _ hnt) (hC.2.2.2.2.2.2.2.1 _ hstt) (hC.2.2.2.2.2.2.2.1 _ hini) hC.2.2.2.2.2.2.2.2.1 hH (mD g σ) hS a0 a 0 0 (mA_int (t := 0) ha0 (by decide)) (mA_int (t := 0) ha (by decide)) (mTys_at g (t := 0) (by decide)) (mTys_at g (t := 0) (by decide)) rfl (nn _ hsp (by omega)) (nn _ hdp (by omega)) (nn _ hn (by omega)) (by rw [e1, e3]; omega) (by rw [e2, e3]; omega) (fun _ _ => rfl) (by omega) (by rw [rest_cat]; omega) hd (fun H1 locs1 hP1 hD1 hS1 => ?_)
  rw [e1, e2, e3, mH_cpI ha] at hP1
  exact kk g R p lau e s m args below meth c H1 locs1 cells slots mc ms real hC h1 h2 hE hP1 hS1 hr
theorem r_copyL {rr rq : Option Nat} {idx a0 a n0 n1 : Nat} {sp dp n : Int} (hd : decode M.1 pc = .ok (.invokestatic idx, 3)) (hp : pc + 3 = pc') (hw : Cond.methodLink M.2.1.cls idx arraycopyName ∈ mT) (hnt : Cond.native arraycopyName ∈ mT) (hstt : Cond.static arraycopyName ∈ mT) (hini : Cond.initialized "java/lang/System" ∈ mT) (er : rr = some a0) (eq : rq = some a) (ha0 : σ.1[a0]? = some (53, n0)) (ha : σ.1[a]? = some (53, n1)) (hsp : 0 ≤ sp) (hdp : 0 ≤ dp) (hn : 0 ≤ n) (hl0 : sp + n ≤ n0) (hl1 : dp + n ≤ n1) (hn0 : n0 ≤ 2147483647) (hn1 : n1 ≤ 2147483647) (hrest : (st.map mC).sum ≤ 8) (kk : WP X (d + 1) b M pc' l st (mCpL σ a0 sp.toNat a dp.toNat n.toNat) Q) : WP X (d + 1) b M pc l (vI n :: vI dp :: vP rq :: vI sp :: vP rr :: st) σ Q := by
  subst er
  subst eq
  subst hp
  intro g R p lau e s m args below meth c H locs cells slots mc ms real hC h1 h2 hE hH hS hr
  have hR := hC.2.2.2.2.2.2.2.2.2.2.2
  have hf := nfw
  have e1 : (Int32.ofInt sp).toNatClampNeg = sp.toNat := iI_clamp hsp (by omega)
  have e2 : (Int32.ofInt dp).toNatClampNeg = dp.toNat := iI_clamp hdp (by omega)
  have e3 : (Int32.ofInt n).toNatClampNeg = n.toNat := iI_clamp hn (by omega)
  have nn : ∀ z : Int, 0 ≤ z → z ≤ 2147483647 → ¬ Int32.ofInt z < 0 := fun z h1 h2 => by rw [iI_0, iI_lt ⟨by omega, h2⟩ iI_z]; omega
  refine va_copyl hC.1 hC.2.1 (hC.2.2.2.1.trans hr.1.symm) hC.2.2.2.2.1 (hC.2.2.2.2.2.2.2.1 _ hw) (hC.2.2.2.2.2.2.2.1 _ hnt) (hC.2.2.2.2.2.2.2.1 _ hstt) (hC.2.2.2.2.2.2.2.1 _ hini) hC.2.2.2.2.2.2.2.2.1 hH (mD g σ) hS a0 a 3 3 (mA_long ha0) (mA_long ha) (mTys_at g (t := 3) (by decide)) (mTys_at g (t := 3) (by decide)) rfl (nn _ hsp (by omega)) (nn _ hdp (by omega)) (nn _ hn (by omega)) (by rw [e1, e3]; omega) (by rw [e2, e3]; omega) (fun _ _ => rfl) (by omega) (by rw [rest_cat]; omega) hd (fun H1 locs1 hP1 hD1 hS1 => ?_)
  rw [e1, e2, e3, mH_cpL ha] at hP1
  exact kk g R p lau e s m args below meth c H1 locs1 cells slots mc ms real hC h1 h2 hE hP1 hS1 hr
end COPY
