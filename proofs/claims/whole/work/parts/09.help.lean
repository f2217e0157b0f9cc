/-! HELP for the blocks: answers of methods that only ask -/
def z_bo (c : Prop) (D : zM) : Int32 → zM → Prop := fun r D1 => D1 = D ∧ ((c ∧ r = 1) ∨ (¬ c ∧ r = 0))
def z_va (v : Int32) (D : zM) : Int32 → zM → Prop := fun r D1 => D1 = D ∧ r = v
section ZH
variable {Y : zY} {pc : Nat} {lv : List (Option Value)} {st rest : List Value} {D D1 : zM} {P : Option Int32 → zM → Prop} {r : Option Int32}
theorem z_bool {c : Prop} (q : z_pi (z_bo c D) r D1) (k1 : c → z_Ok Y pc lv (.int 1 :: rest) D P) (k0 : ¬ c → z_Ok Y pc lv (.int 0 :: rest) D P) : z_Ok Y pc lv (z_psh r rest) D1 P := by
  cases r with
  | none => exact q.elim
  | some v =>
    obtain ⟨rfl, ⟨h1, rfl⟩ | ⟨h1, rfl⟩⟩ := q
    · exact k1 h1
    · exact k0 h1
theorem z_pure {v : Int32} (q : z_pi (z_va v D) r D1) (k : z_Ok Y pc lv (.int v :: rest) D P) : z_Ok Y pc lv (z_psh r rest) D1 P := by
  cases r with
  | none => exact q.elim
  | some w =>
    obtain ⟨rfl, rfl⟩ := q
    exact k
theorem z_intr {Q : Int32 → zM → Prop} (q : z_pi Q r D1) (k : ∀ v, Q v D1 → z_Ok Y pc lv (.int v :: rest) D1 P) : z_Ok Y pc lv (z_psh r rest) D1 P := by
  cases r with
  | none => exact q.elim
  | some w => exact k w q
theorem z_void {Q : zM → Prop} (q : z_pv Q r D1) (k : Q D1 → z_Ok Y pc lv rest D1 P) : z_Ok Y pc lv (z_psh r rest) D1 P := by
  cases r with
  | none => exact k q
  | some w => exact q.elim
theorem z_case (c : Prop) (k1 : c → z_Ok Y pc lv st D P) (k0 : ¬ c → z_Ok Y pc lv st D P) : z_Ok Y pc lv st D P := (Classical.em c).elim k1 k0
end ZH
def zb (s k : Int32) : Prop := (s >>> (k &&& 31)) &&& 1 = 1
def z_nm (k w : Int32) : Prop := 0 ≤ k ∧ k < w
def z_wi (v a b : Int32) : Prop := a ≤ v ∧ v ≤ b
def z_sh8 (x y : Int32) : Int32 := (x.toUInt32 >>> (y.toUInt32 &&& Int32.toUInt32 31)).toInt32
def z_bc1 (x : Int32) : Int32 := x - (z_sh8 x 1 &&& 1431655765)
def z_bc2 (x : Int32) : Int32 := (x &&& 858993459) + (z_sh8 x 2 &&& 858993459)
def z_bc3 (x : Int32) : Int32 := (x + z_sh8 x 4) &&& 252645135
def z_bc4 (x : Int32) : Int32 := x + z_sh8 x 8
def z_bc5 (x : Int32) : Int32 := x + z_sh8 x 16
def z_bc (x : Int32) : Int32 := z_bc5 (z_bc4 (z_bc3 (z_bc2 (z_bc1 x)))) &&& 63
theorem z_rowsAt (b n : Nat) (h : (List.range n).all (fun j => decide (z_sh[b + j]? = some (.inr (.inl (0, 10))))) = true) {i : Int32} (hi : vp_in i n) : z_sh[b + i.toNatClampNeg]? = some (.inr (.inl (0, 10))) := by
  have hlt : i.toNatClampNeg < n := Nat.not_le.mp fun q => hi (Or.inr q)
  have := List.all_eq_true.mp h i.toNatClampNeg (List.mem_range.mpr hlt)
  exact of_decide_eq_true this
theorem z_r8 {i : Int32} (hi : vp_in i 10) : z_sh[8 + i.toNatClampNeg]? = some (.inr (.inl (0, 10))) := z_rowsAt 8 10 (by decide +kernel) hi
theorem z_r20 {i : Int32} (hi : vp_in i 5) : z_sh[20 + i.toNatClampNeg]? = some (.inr (.inl (0, 10))) := z_rowsAt 20 5 (by decide +kernel) hi
theorem z_r26 {i : Int32} (hi : vp_in i 5) : z_sh[26 + i.toNatClampNeg]? = some (.inr (.inl (0, 10))) := z_rowsAt 26 5 (by decide +kernel) hi
theorem z_r40 {i : Int32} (hi : vp_in i 5) : z_sh[40 + i.toNatClampNeg]? = some (.inr (.inl (0, 10))) := z_rowsAt 40 5 (by decide +kernel) hi
theorem z_toInt_ne {x : Int32} {k : Int32} (h : ¬ x = k) : x.toInt ≠ k.toInt := fun q => h (Int32.toInt_inj.mp q)
theorem z_sw0_2 {x : Int32} (h0 : ¬ x = 0) (h1 : ¬ x = 1) (h2 : ¬ x = 2) : x.toInt < 0 ∨ 2 < x.toInt := by
  have a0 := z_toInt_ne h0; have a1 := z_toInt_ne h1; have a2 := z_toInt_ne h2
  rw [show (0 : Int32).toInt = 0 by decide] at a0
  rw [show (1 : Int32).toInt = 1 by decide] at a1
  rw [show (2 : Int32).toInt = 2 by decide] at a2
  omega
theorem z_sw0_3 {x : Int32} (h0 : ¬ x = 0) (h1 : ¬ x = 1) (h2 : ¬ x = 2) (h3 : ¬ x = 3) : x.toInt < 0 ∨ 3 < x.toInt := by
  have a0 := z_toInt_ne h0; have a1 := z_toInt_ne h1; have a2 := z_toInt_ne h2; have a3 := z_toInt_ne h3
  rw [show (0 : Int32).toInt = 0 by decide] at a0
  rw [show (1 : Int32).toInt = 1 by decide] at a1
  rw [show (2 : Int32).toInt = 2 by decide] at a2
  rw [show (3 : Int32).toInt = 3 by decide] at a3
  omega
theorem z_sw0_6 {x : Int32} (h0 : ¬ x = 0) (h1 : ¬ x = 1) (h2 : ¬ x = 2) (h3 : ¬ x = 3) (h4 : ¬ x = 4) (h5 : ¬ x = 5) (h6 : ¬ x = 6) : x.toInt < 0 ∨ 6 < x.toInt := by
  have a0 := z_toInt_ne h0; have a1 := z_toInt_ne h1; have a2 := z_toInt_ne h2; have a3 := z_toInt_ne h3; have a4 := z_toInt_ne h4; have a5 := z_toInt_ne h5; have a6 := z_toInt_ne h6
  rw [show (0 : Int32).toInt = 0 by decide] at a0
  rw [show (1 : Int32).toInt = 1 by decide] at a1
  rw [show (2 : Int32).toInt = 2 by decide] at a2
  rw [show (3 : Int32).toInt = 3 by decide] at a3
  rw [show (4 : Int32).toInt = 4 by decide] at a4
  rw [show (5 : Int32).toInt = 5 by decide] at a5
  rw [show (6 : Int32).toInt = 6 by decide] at a6
  omega
/-- a number in a range is a natural number -/
theorem z_inN {i : Int32} {n : Nat} (h : vp_in i n) : ∃ k : Nat, k < n ∧ i = nI k ∧ k < 2 ^ 31 := by
  have hlt : i.toNatClampNeg < n := Nat.not_le.mp fun q => h (Or.inr q)
  have h0 : ¬ i < 0 := fun q => h (Or.inl q)
  have hge : 0 ≤ i.toInt := by
    have := mt Int32.lt_iff_toInt_lt.mpr h0
    rw [show (0 : Int32).toInt = 0 by decide] at this
    omega
  have hb := Int32.toInt_lt i
  have e : i = nI i.toNatClampNeg := by
    apply Int32.toInt_inj.mp
    have h2 : i.toNatClampNeg < 2 ^ 31 := by
      rw [show i.toNatClampNeg = i.toInt.toNat from rfl]
      omega
    rw [nI_toInt h2, show i.toNatClampNeg = i.toInt.toNat from rfl]
    omega
  refine ⟨i.toNatClampNeg, hlt, e, ?_⟩
  rw [show i.toNatClampNeg = i.toInt.toNat from rfl]
  omega
theorem z_in_mono {i : Int32} {m n : Nat} (h : vp_in i m) (hm : m ≤ n) : vp_in i n := fun q => h (q.imp id (fun z => Nat.le_trans hm z))
