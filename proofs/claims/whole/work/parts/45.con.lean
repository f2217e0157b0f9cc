/-! THE CONSTRUCTORS: a calculus of growing worlds -/
abbrev nE : Type := va_G × ClassId × ClassId × ClassId
def n_tys (E : nE) : List (ClassId × FieldType) := [(E.2.1, .int), (E.2.2.1, .boolean), (E.2.2.2, .array .int)]
def n_K (E : nE) (U : State) : Prop := va_K E.1 vwCl (n_tys E) U ∧ (Cond.arrayOver (.array .int)).before #[] U = true
theorem n_K.moved {E : nE} {u U : State} (h : u.vm.Alike U.vm) (hk : n_K E u) : n_K E U := ⟨va_K.moved h hk.1, over_moved h hk.2⟩
def n_Q (E : nE) (A : Nat → Prop) (P : va_W → Prop) : Array Value → State → Outcome → State → Prop := va_Qv P (fun w t => va_P E.1 vwCl w t.heap ∧ va_D A w) A
def n_Cx (E : nE) (Y : zY) (p : Program) (s : State) (m : MethodId) (args : Array Value) (meth : Method) (c : Code) : Prop :=
  p.tables.exec = Jvm.exec ∧ c.code = Y.2.1 ∧ meth.sig.returnType = none ∧ c.maxLocals = Y.2.2.1 ∧ s.vm.findClass Y.1.cls = some m.cls ∧ (∀ w ∈ z_T, w.before args s = true) ∧ meth.locks = false ∧ (Y.1.name = "<init>" → meth.name = "<init>") ∧ n_K E s
def n_Ok (E : nE) (Y : zY) (R : Room) (pc : Nat) (lv : List (Nat × Value)) (st : List Value) (ws : va_W) (cells slots : Nat) (P : va_W → Prop) : Prop :=
  ∀ (p : Program) (l : Launch) (e : Env) (s : State) (m : MethodId) (args : Array Value) (below : List Frame) (meth : Method) (c : Code) (H : Heap) (locs : List Loc) (la : Array Slot) (A : Nat → Prop),
    n_Cx E Y p s m args meth c → va_P E.1 vwCl ws H → va_D A ws → va_S A s.heap H locs → (∀ q, s.heap.size ≤ q → A q) → lv_has la Y.2.2.1 lv →
    W p l e R s m args below meth c H locs cells slots (MQ below (n_Q E A P) args s R.cells R.slots A) (F0 m pc la st)
def n_z : Nat → Int32 := fun _ => 0
abbrev nr (c : ClassId) (n q : Nat) : Nat × va_E := (q, .inl (c, n, .inl n_z))
abbrev nrr (c : ClassId) (n : Nat) (r : Nat → Nat) (q : Nat) : Nat × va_E := (q, .inl (c, n, .inr (.inr (.inr (.inr (fun i => if i < n then some (r i) else none))))))
def n_rows (c : ClassId) (n k : Nat) (r : Nat → Nat) : va_W := (List.range n).map (fun i => nr c k (r i))
section ZN
variable {E : nE} {Y : zY} {R : Room} {pc : Nat} {lv : List (Nat × Value)} {st : List Value} {ws : va_W} {cells slots : Nat} {P : va_W → Prop}
theorem n_aload {q : Fin 4} (i j : Nat) {x : Nat} (hd : decode Y.2.1 pc = .ok (.aload_n q, 1)) (hi : (q : Nat) = i) (hx : lv[j]? = some (i, .ref x)) (k : n_Ok E Y R (pc + 1) lv (.ref x :: st) ws cells slots P) : n_Ok E Y R pc lv st ws cells slots P := by
  intro p l e s m args below meth c H locs la A C hP hD hS hA hl
  exact lv_aload_n C.1 C.2.1 hd hi (lv_at hl j hx) (k p l e s m args below meth c H locs la A C hP hD hS hA hl)
theorem n_iload {q : Fin 4} (i j : Nat) {x : Int32} (hd : decode Y.2.1 pc = .ok (.iload_n q, 1)) (hi : (q : Nat) = i) (hx : lv[j]? = some (i, .int x)) (k : n_Ok E Y R (pc + 1) lv (.int x :: st) ws cells slots P) : n_Ok E Y R pc lv st ws cells slots P := by
  intro p l e s m args below meth c H locs la A C hP hD hS hA hl
  exact lv_iload_n C.1 C.2.1 hd hi (lv_at hl j hx) (k p l e s m args below meth c H locs la A C hP hD hS hA hl)
theorem n_istore {q : Fin 4} (i : Nat) {x : Int32} (lv' : List (Nat × Value)) (hd : decode Y.2.1 pc = .ok (.istore_n q, 1)) (hi : (q : Nat) = i) (hn : i < Y.2.2.1) (hl' : (i, Value.int x) :: lv.filter (fun q => !(q.1 == i) && !(q.1 + 1 == i && q.2.category == 2)) = lv') (k : n_Ok E Y R (pc + 1) lv' st ws cells slots P) : n_Ok E Y R pc lv (.int x :: st) ws cells slots P := by
  intro p l e s m args below meth c H locs la A C hP hD hS hA hl
  exact lv_istore_n C.1 C.2.1 hd hi hl hn hl' (fun la2 hl2 => k p l e s m args below meth c H locs la2 A C hP hD hS hA hl2)
theorem n_iinc {n : Int} (i j : Nat) {x v : Int32} (lv' : List (Nat × Value)) (hd : decode Y.2.1 pc = .ok (.iinc i n, 3)) (hj : lv[j]? = some (i, .int x)) (hv : x + Int32.ofInt n = v) (hn : i < Y.2.2.1) (hl' : (i, Value.int v) :: lv.filter (fun q => !(q.1 == i) && !(q.1 + 1 == i && q.2.category == 2)) = lv') (k : n_Ok E Y R (pc + 3) lv' st ws cells slots P) : n_Ok E Y R pc lv st ws cells slots P := by
  intro p l e s m args below meth c H locs la A C hP hD hS hA hl
  exact lv_iinc C.1 C.2.1 hd hl hj hv hn hl' (fun la2 hl2 => k p l e s m args below meth c H locs la2 A C hP hD hS hA hl2)
theorem n_goto {off : Int} (tgt : Nat) (hd : decode Y.2.1 pc = .ok (.goto off, 3)) (ht : (pc : Int) + off = (tgt : Int)) (k : n_Ok E Y R tgt lv st ws cells slots P) : n_Ok E Y R pc lv st ws cells slots P := by
  intro p l e s m args below meth c H locs la A C hP hD hS hA hl
  exact lv_goto C.1 C.2.1 hd ht (k p l e s m args below meth c H locs la A C hP hD hS hA hl)
theorem n_ge {x y : Int32} {off : Int} (tgt : Nat) (hd : decode Y.2.1 pc = .ok (.if_icmp .ge off, 3)) (ht : (pc : Int) + off = (tgt : Int)) (kt : y ≤ x → n_Ok E Y R tgt lv st ws cells slots P) (kf : ¬ y ≤ x → n_Ok E Y R (pc + 3) lv st ws cells slots P) : n_Ok E Y R pc lv (.int y :: .int x :: st) ws cells slots P := by
  intro p l e s m args below meth c H locs la A C hP hD hS hA hl
  exact lv_icmp_ge C.1 C.2.1 hd ht (fun z => kt z p l e s m args below meth c H locs la A C hP hD hS hA hl) (fun z => kf z p l e s m args below meth c H locs la A C hP hD hS hA hl)
theorem n_iconst {n : Int} {v : Int32} (hd : decode Y.2.1 pc = .ok (.iconst n, 1)) (hv : Int32.ofInt n = v) (k : n_Ok E Y R (pc + 1) lv (.int v :: st) ws cells slots P) : n_Ok E Y R pc lv st ws cells slots P := by
  intro p l e s m args below meth c H locs la A C hP hD hS hA hl
  exact lv_iconst C.1 C.2.1 hd hv (k p l e s m args below meth c H locs la A C hP hD hS hA hl)
theorem n_bipush {n : Int} {v : Int32} (hd : decode Y.2.1 pc = .ok (.bipush n, 2)) (hv : (Int8.ofInt n).toInt32 = v) (k : n_Ok E Y R (pc + 2) lv (.int v :: st) ws cells slots P) : n_Ok E Y R pc lv st ws cells slots P := by
  intro p l e s m args below meth c H locs la A C hP hD hS hA hl
  exact lv_bipush C.1 C.2.1 hd hv (k p l e s m args below meth c H locs la A C hP hD hS hA hl)
theorem n_sipush {n : Int} {v : Int32} (hd : decode Y.2.1 pc = .ok (.sipush n, 3)) (hv : (Int16.ofInt n).toInt32 = v) (k : n_Ok E Y R (pc + 3) lv (.int v :: st) ws cells slots P) : n_Ok E Y R pc lv st ws cells slots P := by
  intro p l e s m args below meth c H locs la A C hP hD hS hA hl
  exact lv_sipush C.1 C.2.1 hd hv (k p l e s m args below meth c H locs la A C hP hD hS hA hl)
theorem n_dup {v : Value} (hd : decode Y.2.1 pc = .ok (.dup, 1)) (hv : v.category = 1) (k : n_Ok E Y R (pc + 1) lv (v :: v :: st) ws cells slots P) : n_Ok E Y R pc lv (v :: st) ws cells slots P := by
  intro p l e s m args below meth c H locs la A C hP hD hS hA hl
  exact lv_dup C.1 C.2.1 hd hv (k p l e s m args below meth c H locs la A C hP hD hS hA hl)
theorem n_obj {idx x : Nat} (hd : decode Y.2.1 pc = .ok (.invokespecial idx, 3)) (hw : Cond.methodLink Y.1.cls idx Lib.objectInit ∈ z_T ∧ Cond.instanceMethod Lib.objectInit ∈ z_T ∧ Cond.code Lib.objectInit ⟨#[0xb1]⟩ 1 none ∈ z_T) (hR : 1 ≤ R.frames ∧ 12 ≤ R.locals) (k : n_Ok E Y R (pc + 3) lv [] ws cells slots P) : n_Ok E Y R pc lv [.ref x] ws cells slots P := by
  intro p l e s m args below meth c H locs la A C hP hD hS hA hl
  have hts := C.2.2.2.2.2.1
  exact W.objInit C.1 C.2.1 C.2.2.2.2.1 (hts _ hw.1) (hts _ hw.2.1) (hts _ hw.2.2) rfl (by rw [C.2.2.2.1]; exact hl.1) rfl hd hR.1 hR.2 (k p l e s m args below meth c H locs la A C hP hD hS hA hl)
theorem n_newi {n : Int32} (N : Nat) (hd : decode Y.2.1 pc = .ok (.newarray .int, 2)) (harr : Cond.arrayClass .int ∈ z_T) (hn : ¬ n < 0) (hN : n.toNatClampNeg = N) (hb : N ≤ 2000) (hc : cells + 1 ≤ R.cells ∧ slots + N ≤ R.slots) (k : ∀ q, n_Ok E Y R (pc + 2) lv (.ref q :: st) (ws ++ [nr E.2.1 N q]) (cells + 1) (slots + N) P) : n_Ok E Y R pc lv (.int n :: st) ws cells slots P := by
  intro p l e s m args below meth c H locs la A C hP hD hS hA hl
  have hK := C.2.2.2.2.2.2.2.2.1
  refine va_newa (atype := .int) (ty := .int) (a0 := (N, .inl n_z)) C.1 C.2.1 (C.2.2.2.2.2.1 _ harr) rfl hK hP hD hS hA (fun cA => rfl) hn hN (by show N * 4 ≤ 536870912; omega) hc.1 hc.2 hd (fun q cA H1 hK1 hP1 hD1 hS1 => ?_)
  have e1 : s.vm.findClass ("[" ++ FieldType.int.toString) = some cA := (hK1.2 3 _ rfl).2
  have e2 : s.vm.findClass ("[" ++ FieldType.int.toString) = some E.2.1 := (hK.2 0 _ rfl).2
  have e3 : cA = E.2.1 := Option.some.inj (e1.symm.trans e2)
  rw [e3] at hP1 hD1
  exact k q p l e s m args below meth c H1 locs la A C hP1 hD1 hS1 hA hl
theorem n_newz {n : Int32} (N : Nat) (hd : decode Y.2.1 pc = .ok (.newarray .boolean, 2)) (harr : Cond.arrayClass .boolean ∈ z_T) (hn : ¬ n < 0) (hN : n.toNatClampNeg = N) (hb : N ≤ 2000) (hc : cells + 1 ≤ R.cells ∧ slots + N ≤ R.slots) (k : ∀ q, n_Ok E Y R (pc + 2) lv (.ref q :: st) (ws ++ [nr E.2.2.1 N q]) (cells + 1) (slots + N) P) : n_Ok E Y R pc lv (.int n :: st) ws cells slots P := by
  intro p l e s m args below meth c H locs la A C hP hD hS hA hl
  have hK := C.2.2.2.2.2.2.2.2.1
  refine va_newa (atype := .boolean) (ty := .boolean) (a0 := (N, .inl n_z)) C.1 C.2.1 (C.2.2.2.2.2.1 _ harr) rfl hK hP hD hS hA (fun cA => rfl) hn hN (by show N * 1 ≤ 536870912; omega) hc.1 hc.2 hd (fun q cA H1 hK1 hP1 hD1 hS1 => ?_)
  have e1 : s.vm.findClass ("[" ++ FieldType.boolean.toString) = some cA := (hK1.2 3 _ rfl).2
  have e2 : s.vm.findClass ("[" ++ FieldType.boolean.toString) = some E.2.2.1 := (hK.2 1 _ rfl).2
  have e3 : cA = E.2.2.1 := Option.some.inj (e1.symm.trans e2)
  rw [e3] at hP1 hD1
  exact k q p l e s m args below meth c H1 locs la A C hP1 hD1 hS1 hA hl
theorem n_rows_at {c : ClassId} {n k i : Nat} {r : Nat → Nat} {x : Nat × va_E} (h : (n_rows c n k r)[i]? = some x) : i < n ∧ x = nr c k (r i) := by
  unfold n_rows at h
  rw [List.getElem?_map] at h
  by_cases hi : i < n
  · rw [List.getElem?_range hi] at h
    cases h
    exact ⟨hi, rfl⟩
  · rw [List.getElem?_eq_none (by rw [List.length_range]; omega)] at h
    cases h
theorem n_outer (c : ClassId) (N h0 : Nat) : ∀ i : Nat, Jvm.Free.Multi.outerC c N h0 i = arrV c N (fun j => va_rf (if j < i then some (h0 + 1 + j) else none))
  | 0 => by
    show ({ cls := c, slots := Array.replicate N .null, vm := .none } : Cell) = _
    rw [arrV_new]
    refine congrArg (arrV c N) (funext fun j => ?_)
    simp [va_rf]
  | i + 1 => by
    show (Jvm.Free.Multi.outerC c N h0 i).setSlot i (.ref (h0 + 1 + i)) = _
    rw [n_outer c N h0 i, arrV_store]
    refine congrArg (arrV c N) (funext fun j => ?_)
    by_cases e : j = i
    · subst e
      simp [updV, va_rf]
    · by_cases h : j < i
      · simp [updV, e, h, Nat.lt_succ_of_lt h]
      · simp [updV, e, h, show ¬ j < i + 1 by omega]
theorem n_mna {idx : Nat} {n k : Int32} (N M : Nat) (hd : decode Y.2.1 pc = .ok (.multianewarray idx 2, 4)) (hw : Cond.classLink Y.1.cls idx ("[" ++ (FieldType.array .int).toString) ∈ z_T) (harr : Cond.arrayClass .int ∈ z_T) (hn : ¬ n < 0) (hk : ¬ k < 0) (hN : n.toNatClampNeg = N) (hM : k.toNatClampNeg = M) (hb : N ≤ 2000 ∧ M ≤ 2000) (hc : cells + (1 + N) ≤ R.cells ∧ slots + (N + N * M) ≤ R.slots)
    (kk : ∀ q r, n_Ok E Y R (pc + 4) lv (.ref q :: st) (ws ++ (nrr E.2.2.2 N r q :: n_rows E.2.1 N M r)) (cells + 1 + N) (slots + N + N * M) P) : n_Ok E Y R pc lv (.int k :: .int n :: st) ws cells slots P := by
  intro p l e s m args below meth c H locs la A C hP hD hS hA hl T hT Xs
  subst hN
  subst hM
  have hK := C.2.2.2.2.2.2.2.2.1
  have hts := C.2.2.2.2.2.1
  obtain ⟨vm₁, cA, comp, -, fA, fC, hO, -, X', step⟩ := Xs.multianewarray2F C.1 C.2.2.2.2.1 (hts _ hw) C.2.2.2.2.2.2.2.2.2 (hts _ harr) (g := F0 m pc la (.int k :: .int n :: st)) rfl (by rw [C.2.1]; exact hd) rfl hn hk (by omega) (by show _ * 4 ≤ 536870912; omega) (by omega) rfl rfl hc.1 hc.2
  have e1 : s.vm.findClass ("[" ++ (FieldType.array .int).toString) = some E.2.2.2 := (hK.2 2 _ rfl).2
  have e2 : s.vm.findClass (FieldType.array .int).toString = some E.2.1 := (hK.2 0 _ rfl).2
  have e3 : cA = E.2.2.2 := Option.some.inj (fA.symm.trans e1)
  have e4 : comp = E.2.1 := Option.some.inj (fC.symm.trans e2)
  subst e3
  subst e4
  generalize hF : Jvm.Free.Multi.fill (T.setVm vm₁) E.2.2.2 E.2.1 n.toNatClampNeg k.toNatClampNeg (defaultValue .int) n.toNatClampNeg = F at X' step
  have hTh : (T.setVm vm₁).heap = H := hT
  obtain ⟨f1, f2, -, -⟩ := Jvm.Free.Multi.fill_facts (T.setVm vm₁) E.2.2.2 E.2.1 n.toNatClampNeg k.toNatClampNeg (defaultValue .int) n.toNatClampNeg
  rw [hF, hTh] at f1 f2
  have hold : ∀ x : Nat, x < H.size → F.heap[x]? = H[x]? := fun x hx => by
    have := Jvm.Free.Multi.fill_old (T.setVm vm₁) E.2.2.2 E.2.1 n.toNatClampNeg k.toNatClampNeg (defaultValue .int) (a := x) (by rw [hTh]; exact hx) n.toNatClampNeg
    rw [hF, hTh] at this
    exact this
  have hrow : ∀ j : Nat, j < n.toNatClampNeg → F.heap[H.size + 1 + j]? = some (vp_cell E.2.1 (k.toNatClampNeg, .inl n_z)) := fun j hj => by
    have := Jvm.Free.Multi.fill_inner (T.setVm vm₁) E.2.2.2 E.2.1 n.toNatClampNeg k.toNatClampNeg (defaultValue .int) n.toNatClampNeg j hj
    rw [hF, hTh] at this
    rw [this]
    show some ({ cls := E.2.1, slots := Array.replicate k.toNatClampNeg (.int 0), vm := .none } : Cell) = _
    rw [arrV_new]
    rfl
  have hout : Jvm.Free.Multi.outerC E.2.2.2 n.toNatClampNeg H.size n.toNatClampNeg = vp_cell E.2.2.2 (n.toNatClampNeg, .inr (.inr (.inr (.inr (fun i => if i < n.toNatClampNeg then some (H.size + 1 + i) else none))))) := by
    rw [vp_cell_q]
    exact n_outer E.2.2.2 n.toNatClampNeg H.size n.toNatClampNeg
  rw [hout] at f2
  have key : ∀ (i : Nat) (x : Nat × va_E), (nrr E.2.2.2 n.toNatClampNeg (fun i => H.size + 1 + i) H.size :: n_rows E.2.1 n.toNatClampNeg k.toNatClampNeg (fun i => H.size + 1 + i))[i]? = some x → x.1 = H.size + i ∧ va_at E.1 vwCl x F.heap := by
    intro i x hx
    cases i with
    | zero =>
      rw [List.getElem?_cons_zero] at hx
      cases hx
      exact ⟨rfl, f2⟩
    | succ i =>
      rw [List.getElem?_cons_succ] at hx
      obtain ⟨h1, rfl⟩ := n_rows_at hx
      exact ⟨by show H.size + 1 + i = _; omega, hrow i h1⟩
  obtain ⟨t, a1, b1⟩ := kk H.size (fun i => H.size + 1 + i) p l e s m args below meth c F.heap locs la A C ((hP.kept (fun k9 x hx => hold x.1 ((hP k9 x hx).lt))).app (fun i x hx => (key i x hx).2))
    (hD.app ⟨fun i j x y hx hy hxy => by have := (key i x hx).1; have := (key j y hy).1; omega, fun i x hx => by rw [(key i x hx).1]; exact hA _ (by have := hS.1; omega)⟩ (fun i j x y hx hy hxy => by have := (hP i x hx).lt; have := (key j y hy).1; omega))
    ⟨by rw [f1]; have := hS.1; omega, fun x h1 h2 => (hold x (Nat.lt_of_lt_of_le h1 hS.1)).trans (hS.2.1 x h1 h2), hS.2.2⟩ hA hl F rfl X'
  refine ⟨t, step t ?_, b1⟩
  have e : T.heap.size = H.size := by rw [hT]
  rw [e]
  exact a1
def n_F (own : String) (idx ci k : Nat) (ty : FieldType) : Prop := ∃ (C : String) (T : u_T) (N : Nat) (ty0 : Nat → FieldType), vwCl[ci]? = some (C, T, N) ∧ k < N ∧ (∀ w ∈ u_ws C T N, w ∈ z_T) ∧ Cond.fieldLink own idx (T k).1 (T k).2.1 (T k).2.2.1 ∈ z_T ∧ (∀ k, k < N → parseFieldDescriptor (T k).2.2.1 = some (ty0 k)) ∧ (∀ a, a < N → ∀ b, b < N → a ≠ b → (T a).2.1 ≠ (T b).2.1) ∧ (T k).2.2.2 = true ∧ (T k).1 = own ∧ ty0 k = ty
theorem n_putF {idx ci j a : Nat} {fs : List Value} {ty : FieldType} {v : Value} (k : Nat) (ws' : va_W) (hd : decode Y.2.1 pc = .ok (.putfield idx, 3)) (hF : n_F Y.1.cls idx ci k ty) (hi : Y.1.name = "<init>") (hn : narrow ty v = v) (hfit : fits ty v = true) (he : ws[j]? = some (a, .inr (ci, fs))) (hlen : k < fs.length) (hw : ws.set j (a, .inr (ci, fs.set k v)) = ws') (kk : n_Ok E Y R (pc + 3) lv st ws' cells slots P) : n_Ok E Y R pc lv (v :: .ref a :: st) ws cells slots P := by
  intro p l e s m args below meth c H locs la A C hP hD hS hA hl
  obtain ⟨CN, T, N, ty0, h1, h2, h3, h4, h5, h6, h7, h8, h9⟩ := hF
  subst hw
  refine va_putF (D := E.1) (ty := ty) C.1 C.2.1 C.2.2.2.2.2.1 h3 ty0 h5 h6 C.2.2.2.2.1 C.2.2.2.2.2.2.2.2.1 hP hD hS j he h1 k h2 (C.2.2.2.2.2.1 _ h4) (fun _ h => h) h7 (C.2.2.2.2.2.2.2.1 hi) h8 (by rw [h5 k h2, h9]) hn hfit hlen hd (fun H1 locs1 hP1 hD1 hS1 => ?_)
  exact kk p l e s m args below meth c H1 locs1 la A C hP1 hD1 hS1 hA hl
theorem n_puti {idx ci j a : Nat} {fs : List Value} {v : Int32} (k : Nat) (ws' : va_W) (hd : decode Y.2.1 pc = .ok (.putfield idx, 3)) (hF : z_P Y.1.cls idx ci k) (he : ws[j]? = some (a, .inr (ci, fs))) (hlen : k < fs.length) (hw : ws.set j (a, .inr (ci, fs.set k (.int v))) = ws') (kk : n_Ok E Y R (pc + 3) lv st ws' cells slots P) : n_Ok E Y R pc lv (.int v :: .ref a :: st) ws cells slots P := by
  intro p l e s m args below meth c H locs la A C hP hD hS hA hl
  obtain ⟨CN, T, N, ty, h1, h2, h3, h4, h5, h6, h7, h8⟩ := hF
  subst hw
  refine va_put (D := E.1) (ty := .int) C.1 C.2.1 C.2.2.2.2.2.1 h3 ty h5 h6 C.2.2.2.2.1 C.2.2.2.2.2.2.2.2.1 hP hD hS j he h1 k h2 (C.2.2.2.2.2.1 _ h4) (fun _ h => h) h7 (by rw [h5 k h2, h8]) rfl rfl hlen hd (fun H1 locs1 hP1 hD1 hS1 => ?_)
  exact kk p l e s m args below meth c H1 locs1 la A C hP1 hD1 hS1 hA hl
theorem n_getr {idx ci j a : Nat} {fs : List Value} {v : Value} (k : Nat) (hd : decode Y.2.1 pc = .ok (.getfield idx, 3)) (hF : z_F Y.1.cls idx ci k) (he : ws[j]? = some (a, .inr (ci, fs))) (hv : fs[k]? = some v) (kk : n_Ok E Y R (pc + 3) lv (v :: st) ws cells slots P) : n_Ok E Y R pc lv (.ref a :: st) ws cells slots P := by
  intro p l e s m args below meth c H locs la A C hP hD hS hA hl
  obtain ⟨CN, T, N, h1, h2, h3, h4⟩ := hF
  exact va_get (D := E.1) C.1 C.2.1 C.2.2.2.2.2.1 h3 C.2.2.2.2.1 C.2.2.2.2.2.2.2.2.1 hP j he h1 k h2 (C.2.2.2.2.2.1 _ h4) (fun _ h => h) hv hd (kk p l e s m args below meth c H locs la A C hP hD hS hA hl)
theorem n_aald {j a n : Nat} {r : Nat → Nat} {i : Int32} (hd : decode Y.2.1 pc = .ok (.aaload, 1)) (he : ws[j]? = some (nrr E.2.2.2 n r a)) (hi : vp_in i n) (kk : n_Ok E Y R (pc + 1) lv (.ref (r i.toNatClampNeg) :: st) ws cells slots P) : n_Ok E Y R pc lv (.int i :: .ref a :: st) ws cells slots P := by
  intro p l e s m args below meth c H locs la A C hP hD hS hA hl
  have hlt : i.toNatClampNeg < n := Nat.not_le.mp fun q => hi (Or.inr q)
  have hc := hP j _ he
  have hK := (C.2.2.2.2.2.2.2.2.1.2 2 _ rfl).1 n (fun j => va_rf (if j < n then some (r j) else none))
  exact W.aald (v := .ref (r i.toNatClampNeg)) (ty := .array .int) C.1 C.2.1 hc hK rfl (fun q => by cases q) (by show ¬ (i < 0 ∨ (arrV _ _ _).slots.size ≤ _); rw [arrV_size]; exact hi) (by show (arrV _ _ _).slots[_]? = _; rw [arrV_read _ _ hlt]; simp [hlt, va_rf]) rfl rfl hd (kk p l e s m args below meth c H locs la A C hP hD hS hA hl)
theorem n_alen {j a n : Nat} {f : Nat → Int32} {v : Int32} (hd : decode Y.2.1 pc = .ok (.arraylength, 1)) (he : ws[j]? = some (a, .inl (E.2.1, n, .inl f))) (hv : Int32.ofNat n = v) (kk : n_Ok E Y R (pc + 1) lv (.int v :: st) ws cells slots P) : n_Ok E Y R pc lv (.ref a :: st) ws cells slots P := by
  intro p l e s m args below meth c H locs la A C hP hD hS hA hl
  exact va_alen C.1 C.2.1 C.2.2.2.2.2.2.2.2.1 hP j 0 he (ty := .int) rfl hv hd (kk p l e s m args below meth c H locs la A C hP hD hS hA hl)
theorem n_iast {j a n : Nat} {f : Nat → Int32} {i x : Int32} (ws' : va_W) (hd : decode Y.2.1 pc = .ok (.iastore, 1)) (he : ws[j]? = some (a, .inl (E.2.1, n, .inl f))) (hi : vp_in i n) (hw : ws.set j (a, .inl (E.2.1, n, .inl (upd f i.toNatClampNeg x))) = ws') (kk : n_Ok E Y R (pc + 1) lv st ws' cells slots P) : n_Ok E Y R pc lv (.int x :: .int i :: .ref a :: st) ws cells slots P := by
  intro p l e s m args below meth c H locs la A C hP hD hS hA hl
  subst hw
  exact va_iast C.1 C.2.1 C.2.2.2.2.2.2.2.2.1 hP hD hS j 0 he rfl hi hd (fun H1 locs1 hP1 hD1 hS1 => kk p l e s m args below meth c H1 locs1 la A C hP1 hD1 hS1 hA hl)
def n_N (own : String) (idx ci N : Nat) (fs : List Value) : Prop := ∃ (C : String) (T : u_T) (ty : Nat → FieldType), vwCl[ci]? = some (C, T, N) ∧ (∀ w ∈ u_ws C T N, w ∈ z_T) ∧ (∀ k, k < N → parseFieldDescriptor (T k).2.2.1 = some (ty k)) ∧ Cond.classLink own idx C ∈ z_T ∧ Cond.instantiable C N ∈ z_T ∧ Cond.initialized C ∈ z_T ∧ ∀ j, j < N → defaultValue (ty j) = vp_V fs j
theorem n_new {idx ci N : Nat} {fs : List Value} (hd : decode Y.2.1 pc = .ok (.new idx, 3)) (hN : n_N Y.1.cls idx ci N fs) (hc : cells + 1 ≤ R.cells ∧ slots + N ≤ R.slots) (kk : ∀ q, n_Ok E Y R (pc + 3) lv (.ref q :: st) (ws ++ [(q, .inr (ci, fs))]) (cells + 1) (slots + N) P) : n_Ok E Y R pc lv st ws cells slots P := by
  intro p l e s m args below meth c H locs la A C hP hD hS hA hl
  obtain ⟨CN, T, ty, h1, h2, h3, h4, h5, h6, h7⟩ := hN
  have hts := C.2.2.2.2.2.1
  exact va_new (fs := fs) C.1 C.2.1 hts h2 ty h3 C.2.2.2.2.1 (hts _ h4) (hts _ h5) (hts _ h6) C.2.2.2.2.2.2.2.2.1 hP hD hS hA h1 h7 hc.1 hc.2 hd (fun q H1 hP1 hD1 hS1 => kk q p l e s m args below meth c H1 locs la A C hP1 hD1 hS1 hA hl)
theorem n_vret (hd : decode Y.2.1 pc = .ok (.return_, 1)) (hc : cells ≤ R.cells ∧ slots ≤ R.slots) (hP9 : P ws) : n_Ok E Y R pc lv [] ws cells slots P := by
  intro p l e s m args below meth c H locs la A C hP hD hS hA hl
  refine W.widen (k := R.cells) (n := R.slots) hc.1 hc.2 ?_
  exact W.vret C.1 C.2.1 C.2.2.1 (fun t ht hW => ⟨⟨ws, rfl, hP9, by rw [ht]; exact hP, hD⟩, hS.F ht⟩) hS.2.2 hd C.2.2.2.2.2.2.1
end ZN
/-- a contract out of a walk: one cell comes in -/
def n_Pr (E : nE) (x : Nat × va_E) (sz : Nat) (U : State) : Prop := U.heap.size = sz ∧ va_P E.1 vwCl [x] U.heap ∧ n_K E U
theorem n_met {E : nE} {Y : zY} {R : Room} {P : va_W → Prop} {x : Nat × va_E} {as : List Value} {lv : List (Nat × Value)} (hM : z_Mt Y) (hr : Y.2.2.2.1 = none) (hlen : (lg_sl as).length ≤ Y.2.2.1) (hlv : lv_args 0 as = lv) (hC : n_Ok E Y R 0 lv [] [x] 0 0 P) (l : Launch) (sz : Nat) :
    Met l Y.1 (z_wd Y) R (va_Pc as (n_Pr E x sz)) (n_Q E (va_A [x] sz) P) R.cells R.slots (va_A [x] sz) := by
  refine Met.ofW (cc := Y.2.1) (maxL := Y.2.2.1) (ret := Y.2.2.2.1) hM.2.2.1 rfl ?_
  intro p e s m args below meth c s₁ B hml hv
  obtain ⟨rfl, hsz, hP, hK⟩ := hv
  have hts := atoms_spec (ws := z_wd Y) B.pre
  have hl := lv_entry as (n := Y.2.2.1) hlen
  rw [hlv] at hl
  rw [lg_entry_eq]
  subst hsz
  have hD : va_D (va_A [x] s.heap.size) [x] := ⟨fun i j p q hi hj _ => by
    have h1 : i < 1 := (List.getElem?_eq_some_iff.mp hi).1
    have h2 : j < 1 := (List.getElem?_eq_some_iff.mp hj).1
    omega, fun k q hk => va_A.in hk⟩
  exact hC p l e s m _ below meth c s.heap [] _ _ ⟨B.exec, B.bytes, B.returns.trans hr, hml, findClass_of_methodNamed B.named, fun w hw => hts w (List.mem_cons_of_mem _ hw), B.notSynchronized, fun hn => (name_of_methodNamed B.named B.method).1.trans hn, hK⟩ hP hD va_S.rf (fun q h => Or.inr h) hl
theorem n_blind {E : nE} {x : Nat × va_E} {as : List Value} {sz : Nat} : FrameBlind (va_Pc as (n_Pr E x sz)) := by
  intro a U g mk h
  obtain ⟨h1, h2, h3, h4⟩ := h
  exact ⟨h1, h2, h3, n_K.moved (u := U) (U := U.calling g mk a) (Vm.Alike.refl U.vm) h4⟩
/-- behind a call that had one cell of the world -/
theorem n_apart {E : nE} {A0 : Nat → Prop} {ws : va_W} {x : Nat × va_E} {j : Nat} {H H1 : Heap} (hP : va_P E.1 vwCl ws H) (hD : va_D A0 ws) (hj : ws[j]? = some x) (hk : ∀ q : Nat, q < H.size → ¬ va_A [x] H.size q → H1[q]? = H[q]?) : ∀ (i : Nat) (y : Nat × va_E), ws[i]? = some y → i ≠ j → ¬ va_A [x] H.size y.1 ∧ va_at E.1 vwCl y H1 := by
  intro i y hy hij
  have hlt := (hP i y hy).lt
  have ha : ¬ va_A [x] H.size y.1 := by
    rintro (⟨k, e, hk9⟩ | h)
    · have h1 : k < 1 := (List.getElem?_eq_some_iff.mp hk9).1
      rw [show k = 0 by omega] at hk9
      have h2 : x = (y.1, e) := Option.some.inj hk9
      exact hij (hD.1 i j y x hy hj (by rw [h2]))
    · omega
  exact ⟨ha, (hP i y hy).kept (hk y.1 hlt ha)⟩
theorem n_join {E : nE} {A0 : Nat → Prop} {w0 w1 : va_W} {x : Nat × va_E} {H H1 : Heap} (hP : va_P E.1 vwCl (w0 ++ [x]) H) (hD : va_D A0 (w0 ++ [x])) (hk : ∀ q : Nat, q < H.size → ¬ va_A [x] H.size q → H1[q]? = H[q]?) (hF : ∀ q, va_A [x] H.size q → A0 q) (hP1 : va_P E.1 vwCl w1 H1) (hD1 : va_D (va_A [x] H.size) w1) : va_P E.1 vwCl (w0 ++ w1) H1 ∧ va_D A0 (w0 ++ w1) := by
  have hj : (w0 ++ [x])[w0.length]? = some x := by rw [List.getElem?_append_right (Nat.le_refl _), Nat.sub_self]; rfl
  have key : ∀ (i : Nat) (y : Nat × va_E), w0[i]? = some y → ¬ va_A [x] H.size y.1 ∧ va_at E.1 vwCl y H1 := fun i y hy => by
    have hl := (List.getElem?_eq_some_iff.mp hy).1
    exact n_apart hP hD hj hk i y (by rw [List.getElem?_append_left hl]; exact hy) (by omega)
  have hD0 : va_D A0 w0 := ⟨fun i j p q hi hj9 hpq => hD.1 i j p q (by rw [List.getElem?_append_left (List.getElem?_eq_some_iff.mp hi).1]; exact hi) (by rw [List.getElem?_append_left (List.getElem?_eq_some_iff.mp hj9).1]; exact hj9) hpq, fun i y hy => hD.2 i y (by rw [List.getElem?_append_left (List.getElem?_eq_some_iff.mp hy).1]; exact hy)⟩
  refine ⟨va_P.app (fun i y hy => (key i y hy).2) hP1, hD0.app (hD1.weaken (fun _ q _ h => hF q.1 h)) (fun i j p q hp hq hpq => (key i p hp).1 (by rw [hpq]; exact hD1.2 j q hq))⟩
theorem n_swap {E : nE} {A0 : Nat → Prop} {ws : va_W} {a j : Nat} {e e' : va_E} {H H1 : Heap} (hP : va_P E.1 vwCl ws H) (hD : va_D A0 ws) (hj : ws[j]? = some (a, e)) (hk : ∀ q : Nat, q < H.size → ¬ va_A [(a, e)] H.size q → H1[q]? = H[q]?) (hP1 : va_P E.1 vwCl [(a, e')] H1) : va_P E.1 vwCl (ws.set j (a, e')) H1 ∧ va_D A0 (ws.set j (a, e')) := by
  have hl := (List.getElem?_eq_some_iff.mp hj).1
  refine ⟨fun i y hy => ?_, hD.set hj⟩
  by_cases hij : i = j
  · subst hij
    rw [List.getElem?_set_self hl] at hy
    cases hy
    exact hP1 0 _ rfl
  · rw [List.getElem?_set_ne (Ne.symm hij)] at hy
    exact (n_apart hP hD hj hk i y hy hij).2
section ZNC
variable {E : nE} {Y : zY} {R : Room} {pc : Nat} {lv : List (Nat × Value)} {rest : List Value} {ws w0 : va_W} {cells slots : Nat} {P : va_W → Prop}
theorem n_fr {A0 : Nat → Prop} {ws : va_W} {x : Nat × va_E} {j : Nat} {H0 H : Heap} {locs : List Loc} (hD : va_D A0 ws) (hS : va_S A0 H0 H locs) (hA : ∀ q, H0.size ≤ q → A0 q) (hj : ws[j]? = some x) : ∀ q, va_A [x] H.size q → A0 q := by
  rintro q (⟨k, e, hk⟩ | h)
  · have h1 : k < 1 := (List.getElem?_eq_some_iff.mp hk).1
    rw [show k = 0 by omega] at hk
    have h2 : x = (q, e) := Option.some.inj hk
    have := hD.2 j x hj
    rw [h2] at this
    exact this
  · exact hA q (Nat.le_trans hS.1 h)
theorem n_one {ws : va_W} {x : Nat × va_E} {j : Nat} {H : Heap} (hP : va_P E.1 vwCl ws H) (hj : ws[j]? = some x) : va_P E.1 vwCl [x] H := fun k y hk => by
  have h9 : k < 1 := (List.getElem?_eq_some_iff.mp hk).1
  rw [show k = 0 by omega] at hk
  cases hk
  exact hP _ _ hj
/-- a constructor of the last cell -/
theorem n_init {Z : zY} {RZ : Room} {PZ : va_W → Prop} {idx q : Nat} {e0 : va_E} (hd : decode Y.2.1 pc = .ok (.invokespecial idx, 3)) (hM : z_Mt Z) (hw : Cond.methodLink Y.1.cls idx Z.1 ∈ z_T ∧ Cond.instanceMethod Z.1 ∈ z_T) (hnm : Z.1.name = "<init>") (hpn : z_Pn Z 0) (hr : Z.2.2.2.1 = none) (hR : RZ.frames + 1 ≤ R.frames ∧ 8 + (Z.2.2.1 + 11) + RZ.locals ≤ R.locals) (hc : cells + RZ.cells ≤ R.cells ∧ slots + RZ.slots ≤ R.slots) (h8 : (rest.map fun v => v.category).sum ≤ 8) (h1 : 1 ≤ Z.2.2.1)
    (hC : n_Ok E Z RZ 0 [(0, .ref q)] [] [(q, e0)] 0 0 PZ) (kk : ∀ w1, PZ w1 → n_Ok E Y R (pc + 3) lv rest (w0 ++ w1) (cells + RZ.cells) (slots + RZ.slots) P) : n_Ok E Y R pc lv (.ref q :: rest) (w0 ++ [(q, e0)]) cells slots P := by
  intro p l e s m args below meth c H locs la A C hP hD hS hA hl
  have hts := C.2.2.2.2.2.1
  have hmet := n_met (as := [.ref q]) hM hr h1 rfl hC l H.size
  have hj : (w0 ++ [(q, e0)])[w0.length]? = some (q, e0) := by rw [List.getElem?_append_right (Nat.le_refl _), Nat.sub_self]; rfl
  have hFr := n_fr hD hS hA hj
  have hcw := cwI (s := s) (args := args) (own := Y.1.cls) (index := idx) (R := R) 0 hts (z_good hM.1) (show z_wd Z = Cond.code Z.1 Z.2.1 Z.2.2.1 none :: z_T by unfold z_wd; rw [hr]) (rm := RZ) rfl rfl (hts _ hM.2.1) (hts _ hw.1) (hts _ hw.2) hnm ⟨hM.2.2.2.1, hM.2.2.2.2.1, hpn⟩ hR
  have hrun := va_runI (p := p) (l := l) (e := e) (below := below) (meth := meth) (c := c) (locs := locs) (cells := cells) (slots := slots) (H := H) (As := []) (rest := rest) (b := q) (g := F0 m pc la (.ref q :: rest))
    ⟨C.1, C.2.1, C.2.2.2.1, C.2.2.2.2.1, hts⟩ hmet hcw ⟨n_blind, fun U hU hW => ⟨rfl, by rw [hU], by rw [hU]; exact n_one hP hj, n_K.moved hW.alike C.2.2.2.2.2.2.2.2⟩⟩ rfl rfl hl.1 rfl (lv_room h8) hd hc
  refine va_callv hrun hS (fun q _ h => hFr q h) hFr (fun w1 t H1 locs1 ht hvm hw1 hB hz hk hS1 => ?_)
  obtain ⟨hP1, hD1⟩ := hB
  rw [ht] at hP1
  obtain ⟨hP2, hD2⟩ := n_join hP hD hk hFr hP1 hD1
  exact kk w1 hw1 p l e s m args below meth c H1 locs1 la A C hP2 hD2 hS1 hA hl
/-- a static method of one row and one number -/
theorem n_stat {Z : zY} {RZ : Room} {idx q j : Nat} {e0 : va_E} {v : Int32} {PZ : va_E → Prop} (hd : decode Y.2.1 pc = .ok (.invokestatic idx, 3)) (hM : z_Mt Z) (hw : Cond.methodLink Y.1.cls idx Z.1 ∈ z_T ∧ Cond.static Z.1 ∈ z_T) (hpn : z_Pn Z 2) (hr : Z.2.2.2.1 = none) (hR : RZ.frames + 1 ≤ R.frames ∧ 8 + (Z.2.2.1 + 11) + RZ.locals ≤ R.locals) (hc : cells + RZ.cells ≤ R.cells ∧ slots + RZ.slots ≤ R.slots) (h8 : (rest.map fun v => v.category).sum ≤ 8) (h1 : 2 ≤ Z.2.2.1)
    (hj : ws[j]? = some (q, e0)) (hC : n_Ok E Z RZ 0 [(0, .ref q), (1, .int v)] [] [(q, e0)] 0 0 (fun w => ∃ e1, w = [(q, e1)] ∧ PZ e1)) (kk : ∀ e1, PZ e1 → n_Ok E Y R (pc + 3) lv rest (ws.set j (q, e1)) (cells + RZ.cells) (slots + RZ.slots) P) : n_Ok E Y R pc lv (.int v :: .ref q :: rest) ws cells slots P := by
  intro p l e s m args below meth c H locs la A C hP hD hS hA hl
  have hts := C.2.2.2.2.2.1
  have hmet := n_met (as := [.ref q, .int v]) hM hr h1 rfl hC l H.size
  have hFr := n_fr hD hS hA hj
  have hB := callB_of (s := s) (args := args) (own := Y.1.cls) (index := idx) (R := R) 2 hts (z_good hM.1) (rfl : z_wd Z = _ :: z_T) (rm := RZ) rfl rfl (hts _ hM.2.1) (hts _ hw.1) ⟨hM.2.2.2.1, hM.2.2.2.2.1, hpn⟩ hR
  have hrun := va_runS (p := p) (l := l) (e := e) (below := below) (meth := meth) (c := c) (locs := locs) (cells := cells) (slots := slots) (H := H) (As := [.ref q, .int v]) (rest := rest) (g := F0 m pc la (.int v :: .ref q :: rest))
    ⟨C.1, C.2.1, C.2.2.2.1, C.2.2.2.2.1, hts⟩ hmet ⟨hB, hts _ hw.2⟩ ⟨n_blind, fun U hU hW => ⟨rfl, by rw [hU], by rw [hU]; exact n_one hP hj, n_K.moved hW.alike C.2.2.2.2.2.2.2.2⟩⟩ rfl rfl hl.1 rfl (lv_room h8) hd hc
  refine va_callv hrun hS (fun q _ h => hFr q h) hFr (fun w1 t H1 locs1 ht hvm hw1 hB hz hk hS1 => ?_)
  obtain ⟨hP1, hD1⟩ := hB
  obtain ⟨e1, rfl, he1⟩ := hw1
  rw [ht] at hP1
  obtain ⟨hP2, hD2⟩ := n_swap hP hD hj hk hP1
  exact kk e1 he1 p l e s m args below meth c H1 locs1 la A C hP2 hD2 hS1 hA hl
end ZNC
