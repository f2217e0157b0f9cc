/-! THE CALCULUS: one world of 59 cells (places by the order in which they are made), its numbers as one memory; 'z_Ok': a method of the program, at a pc, with locals, stack and memory, comes to its end with a given end state. A row an instruction, over no machine's names. -/
abbrev zM : Type := Nat → Nat → Int32
abbrev zG : Type := (Nat → Nat) × ClassId × ClassId × ClassId × va_G
abbrev zS : Type := (Nat × List (Option Nat)) ⊕ (Nat × Nat) ⊕ (Nat × Nat)
/-- the shapes of the places: an object (its class; of each field the place that it names, or none: a number), a row of numbers (0 int, 1 boolean; its length), a row of rows (how many, the first one's place) -/
def z_sh : List zS := [
  .inl (3, [some 1, some 18, some 32, some 35, some 38, some 39, some 45, none, none, none, none, none, none]),
  .inl (0, [some 2, some 3, some 4, some 5, some 6, some 7, none]),
  .inr (.inl (0, 14)), .inr (.inl (0, 14)), .inr (.inl (0, 14)), .inr (.inl (1, 14)), .inr (.inl (0, 10)),
  .inr (.inr (10, 8)), .inr (.inl (0, 10)), .inr (.inl (0, 10)), .inr (.inl (0, 10)), .inr (.inl (0, 10)), .inr (.inl (0, 10)), .inr (.inl (0, 10)), .inr (.inl (0, 10)), .inr (.inl (0, 10)), .inr (.inl (0, 10)), .inr (.inl (0, 10)),
  .inl (2, [some 19, some 25, some 31]),
  .inr (.inr (5, 20)), .inr (.inl (0, 10)), .inr (.inl (0, 10)), .inr (.inl (0, 10)), .inr (.inl (0, 10)), .inr (.inl (0, 10)),
  .inr (.inr (5, 26)), .inr (.inl (0, 10)), .inr (.inl (0, 10)), .inr (.inl (0, 10)), .inr (.inl (0, 10)), .inr (.inl (0, 10)),
  .inr (.inl (0, 5)),
  .inl (1, [some 33, some 34, none, none, none]), .inr (.inl (0, 30)), .inr (.inl (0, 10)),
  .inl (1, [some 36, some 37, none, none, none]), .inr (.inl (0, 30)), .inr (.inl (0, 10)),
  .inr (.inl (0, 5)),
  .inr (.inr (5, 40)), .inr (.inl (0, 10)), .inr (.inl (0, 10)), .inr (.inl (0, 10)), .inr (.inl (0, 10)), .inr (.inl (0, 10)),
  .inr (.inl (0, 10)),
  .inl (4, [none, some 47, some 48, some 49, some 50, none, some 51, none, none, some 52, some 53, some 54, some 55, none, none, none, some 56, none, none, some 57, some 58]),
  .inr (.inl (0, 14)), .inr (.inl (0, 14)), .inr (.inl (0, 14)), .inr (.inl (1, 14)), .inr (.inl (0, 5)), .inr (.inl (0, 50)), .inr (.inl (0, 10)), .inr (.inl (0, 10)), .inr (.inl (1, 140)), .inr (.inl (0, 41)), .inr (.inl (0, 41)), .inr (.inl (1, 1024))]
def z_f1 (ad : Nat → Nat) (f : Nat → Int32) (k : Nat) (o : Option Nat) : Value := match o with
  | some r => .ref (ad r)
  | none => .int (f k)
def z_fld (ad : Nat → Nat) (f : Nat → Int32) (fs : List (Option Nat)) : List Value := fs.mapIdx (z_f1 ad f)
def z_cell (G : zG) (f : Nat → Int32) (x : zS) : va_E := match x with
  | .inl o => .inr (o.1, z_fld G.1 f o.2)
  | .inr (.inl (0, n)) => .inl (G.2.1, n, .inl f)
  | .inr (.inl (_ + 1, n)) => .inl (G.2.2.1, n, .inl f)
  | .inr (.inr r) => .inl (G.2.2.2.1, r.1, .inr (.inr (.inr (.inr (fun i => if i < r.1 then some (G.1 (r.2 + i)) else none)))))
def z_W (G : zG) (D : zM) : va_W := z_sh.mapIdx (fun q x => (G.1 q, z_cell G (D q) x))
theorem z_at {G : zG} {D : zM} {q : Nat} {x : zS} (h : z_sh[q]? = some x) : (z_W G D)[q]? = some (G.1 q, z_cell G (D q) x) := by
  unfold z_W
  rw [List.getElem?_mapIdx, h]
  rfl
theorem z_at_inv {G : zG} {D : zM} {q : Nat} {y : Nat × va_E} (h : (z_W G D)[q]? = some y) : q < 59 ∧ y.1 = G.1 q := by
  unfold z_W at h
  rw [List.getElem?_mapIdx] at h
  cases hx : z_sh[q]? with
  | none => rw [hx] at h; cases h
  | some x =>
    rw [hx] at h
    cases h
    exact ⟨(List.getElem?_eq_some_iff.mp hx).1, rfl⟩
def z_row (D : zM) (q : Nat) (f : Nat → Int32) : zM := fun p => if p = q then f else D p
theorem z_row_eq (D : zM) (q : Nat) (f : Nat → Int32) : z_row D q f q = f := if_pos rfl
theorem z_row_ne {D : zM} {q p : Nat} {f : Nat → Int32} (h : p ≠ q) : z_row D q f p = D p := if_neg h
def z_up (D : zM) (q k : Nat) (v : Int32) : zM := z_row D q (upd (D q) k v)
theorem z_up_eq (D : zM) (q k : Nat) (v : Int32) : z_up D q k v q k = v := by simp [z_up, z_row, upd]
theorem z_up_k {D : zM} {q k j : Nat} {v : Int32} (h : j ≠ k) : z_up D q k v q j = D q j := by simp [z_up, z_row, upd, h]
theorem z_up_ne {D : zM} {q p k : Nat} {v : Int32} (h : p ≠ q) : z_up D q k v p = D p := z_row_ne h
theorem z_W_row {G : zG} {D : zM} {q : Nat} {x : zS} {f : Nat → Int32} (h : z_sh[q]? = some x) : (z_W G D).set q (G.1 q, z_cell G f x) = z_W G (z_row D q f) := by
  apply List.ext_getElem?
  intro i
  by_cases hi : i = q
  · subst hi
    rw [List.getElem?_set_self (List.getElem?_eq_some_iff.mp (z_at (G := G) (D := D) h)).1, z_at h, z_row_eq]
  · rw [List.getElem?_set_ne (Ne.symm hi)]
    unfold z_W
    rw [List.getElem?_mapIdx, List.getElem?_mapIdx, z_row_ne hi]
theorem z_fld_set {ad : Nat → Nat} {f : Nat → Int32} {fs : List (Option Nat)} {k : Nat} {v : Int32} (h : fs[k]? = some none) : (z_fld ad f fs).set k (.int v) = z_fld ad (upd f k v) fs := by
  apply List.ext_getElem?
  intro i
  have hl : k < (z_fld ad f fs).length := by
    unfold z_fld
    rw [List.length_mapIdx]
    exact (List.getElem?_eq_some_iff.mp h).1
  by_cases hi : i = k
  · subst hi
    rw [List.getElem?_set_self hl]
    unfold z_fld
    rw [List.getElem?_mapIdx, h]
    simp [z_f1, upd]
  · rw [List.getElem?_set_ne (Ne.symm hi)]
    unfold z_fld
    rw [List.getElem?_mapIdx, List.getElem?_mapIdx]
    cases fs[i]? with
    | none => rfl
    | some o => cases o <;> simp [z_f1, upd, hi]
theorem z_fld_at {ad : Nat → Nat} {f : Nat → Int32} {fs : List (Option Nat)} {k : Nat} {o : Option Nat} (h : fs[k]? = some o) : (z_fld ad f fs)[k]? = some (z_f1 ad f k o) := by
  unfold z_fld
  rw [List.getElem?_mapIdx, h]
  rfl
/-- the addresses are apart -/
def z_inj (G : zG) : Prop := ∀ i j : Nat, i < 59 → j < 59 → G.1 i = G.1 j → i = j
def z_A (G : zG) : Nat → Prop := fun q => ∃ k, k < 59 ∧ G.1 k = q
theorem z_D {G : zG} (h : z_inj G) (D : zM) : va_D (z_A G) (z_W G D) := by
  refine ⟨fun i j x y hx hy hxy => ?_, fun k q hk => ?_⟩
  · obtain ⟨a1, a2⟩ := z_at_inv hx
    obtain ⟨b1, b2⟩ := z_at_inv hy
    exact h i j a1 b1 (a2.symm.trans (hxy.trans b2))
  · obtain ⟨a1, a2⟩ := z_at_inv hk
    exact ⟨k, a1, a2.symm⟩
/-- a value of the program: a reference names a place -/
def z_v (G : zG) (v : Value) : Value := match v with
  | .ref k => .ref (G.1 k)
  | w => w
theorem z_v_cat (G : zG) (v : Value) : (z_v G v).category = v.category := by cases v <;> rfl
/-- the words that hold in every method -/
def z_T : List Cond := lw_tbl.filter goodWord
theorem z_mem {w : Cond} (i : Nat) (h : lw_tbl[i]? = some w) (hg : goodWord w = true) : w ∈ z_T := List.mem_filter.mpr ⟨List.mem_of_getElem? h, hg⟩
def z_wd (Y : zY) : List Cond := .code Y.1 Y.2.1 Y.2.2.1 Y.2.2.2.1 :: z_T
theorem z_good {Y : zY} (h : Cond.code Y.1 Y.2.1 Y.2.2.1 Y.2.2.2.1 ∈ z_T) : GoodIn z_T (z_wd Y) := by
  intro w hw
  have hm : w ∈ z_T := (List.mem_cons.mp hw).elim (fun e => e ▸ h) id
  exact ⟨hm, good_of_word (List.mem_filter.mp hm).2⟩
def z_rm (n : Nat) : Room := { frames := n, cells := 0, slots := 0, locals := 30 * n }
def z_nest : Cond := .methodLinkNest RX1 47 yX3_holds RX3
def z_tys (G : zG) : List (ClassId × FieldType) := [(G.2.1, .int), (G.2.2.1, .boolean), (G.2.2.2.1, .array .int)]
/-- what the tables say, at a state -/
def z_St (G : zG) (U : State) : Prop := va_K G.2.2.2.2 vwCl (z_tys G) U ∧ va_Nw z_nest U ∧ z_inj G
theorem z_St.warm {G : zG} {s U : State} (hW : s.WarmedH U.vm) (h : z_St G s) : z_St G U := ⟨va_K.moved hW.alike h.1, va_Nw.warmM hW h.2.1, h.2.2⟩
def z_Cx (Y : zY) (G : zG) (p : Program) (s : State) (m : MethodId) (args : Array Value) (meth : Method) (c : Code) : Prop :=
  p.tables.exec = Jvm.exec ∧ c.code = Y.2.1 ∧ meth.sig.returnType = Y.2.2.2.1 ∧ c.maxLocals = Y.2.2.1 ∧ s.vm.findClass Y.1.cls = some m.cls ∧ (∀ w ∈ z_T, w.before args s = true) ∧ meth.locks = false ∧ z_St G s
def z_Hp (G : zG) (s : State) (D : zM) (H : Heap) (locs : List Loc) : Prop := va_P G.2.2.2.2 vwCl (z_W G D) H ∧ va_S (z_A G) s.heap H locs
def z_l1 (G : zG) (i : Nat) (o : Option Value) : Option (Nat × Value) := o.map (fun v => (i, z_v G v))
def z_ll (G : zG) (lv : List (Option Value)) : List (Nat × Value) := (lv.mapIdx (z_l1 G)).filterMap id
theorem z_ll_mem {G : zG} {lv : List (Option Value)} {q : Nat × Value} : q ∈ z_ll G lv ↔ ∃ w, lv[q.1]? = some (some w) ∧ q.2 = z_v G w := by
  unfold z_ll
  rw [List.mem_filterMap]
  constructor
  · rintro ⟨o, h1, h2⟩
    obtain ⟨i, hi⟩ := List.getElem?_of_mem h1
    rw [List.getElem?_mapIdx] at hi
    cases hx : lv[i]? with
    | none => rw [hx] at hi; cases hi
    | some x =>
      rw [hx] at hi
      cases x with
      | none =>
        have : o = none := (Option.some.inj hi).symm
        rw [this] at h2
        cases h2
      | some w =>
        have : o = some (i, z_v G w) := (Option.some.inj hi).symm
        rw [this] at h2
        have h3 : (i, z_v G w) = q := Option.some.inj h2
        rw [← h3]
        exact ⟨w, hx, rfl⟩
  · rintro ⟨w, h1, h2⟩
    refine ⟨some q, ?_, rfl⟩
    apply List.mem_of_getElem? (i := q.1)
    rw [List.getElem?_mapIdx, h1]
    show some (some (q.1, z_v G w)) = some (some q)
    rw [← h2]
def z_Lv (G : zG) (la : Array Slot) (n : Nat) (lv : List (Option Value)) : Prop := lv_has la n (z_ll G lv) ∧ ∀ q ∈ z_ll G lv, q.2.category = 1
theorem z_Lv.at {G : zG} {la : Array Slot} {n i : Nat} {lv : List (Option Value)} {v : Value} (h : z_Lv G la n lv) (hi : lv[i]? = some (some v)) : la[i]? = some (.val (z_v G v)) := h.1.2.2 (i, z_v G v) (z_ll_mem.mpr ⟨v, hi, rfl⟩)
theorem z_Lv.set {G : zG} {la la' : Array Slot} {n i : Nat} {lv : List (Option Value)} {v : Value} (h : z_Lv G la n lv) (hc : v.category = 1)
    (h' : lv_has la' n ((i, z_v G v) :: (z_ll G lv).filter (fun q => !(q.1 == i) && !(q.1 + 1 == i && q.2.category == 2)))) : z_Lv G la' n (lv.set i (some v)) := by
  have key : ∀ q ∈ z_ll G (lv.set i (some v)), q = (i, z_v G v) ∨ (q.1 ≠ i ∧ q ∈ z_ll G lv) := by
    intro q hq
    obtain ⟨w, h1, h2⟩ := z_ll_mem.mp hq
    by_cases e : q.1 = i
    · left
      have hl : i < lv.length := by
        have := (List.getElem?_eq_some_iff.mp h1).1
        rw [List.length_set] at this
        omega
      rw [e, List.getElem?_set_self hl] at h1
      have : w = v := (Option.some.inj (Option.some.inj h1)).symm
      rw [this] at h2
      exact Prod.ext e h2
    · right
      rw [List.getElem?_set_ne (Ne.symm e)] at h1
      exact ⟨e, z_ll_mem.mpr ⟨w, h1, h2⟩⟩
  refine ⟨⟨h'.1, h'.2.1, fun q hq => ?_⟩, fun q hq => ?_⟩
  · rcases key q hq with rfl | ⟨e, hm⟩
    · exact h'.2.2 _ List.mem_cons_self
    · refine h'.2.2 q (List.mem_cons_of_mem _ (List.mem_filter.mpr ⟨hm, ?_⟩))
      have hc1 := h.2 q hm
      simp [e, hc1]
  · rcases key q hq with rfl | ⟨e, hm⟩
    · rw [z_v_cat]; exact hc
    · exact h.2 q hm
/-- a method's end -/
def z_Q (G : zG) (P : Option Int32 → zM → Prop) : Array Value → State → Outcome → State → Prop := fun _ st oc t =>
  (∃ (r : Option Int32) (D : zM), oc = .returned (r.map Value.int) ∧ P r D ∧ va_P G.2.2.2.2 vwCl (z_W G D) t.heap) ∧ va_F (z_A G) st t
def z_Ok (Y : zY) (pc : Nat) (lv : List (Option Value)) (st : List Value) (D : zM) (P : Option Int32 → zM → Prop) : Prop :=
  ∀ (G : zG) (p : Program) (l : Launch) (e : Env) (s : State) (m : MethodId) (args : Array Value) (below : List Frame) (meth : Method) (c : Code) (H : Heap) (locs : List Loc) (la : Array Slot),
    z_Cx Y G p s m args meth c → z_Hp G s D H locs → z_Lv G la Y.2.2.1 lv →
    W p l e (z_rm Y.2.2.2.2) s m args below meth c H locs 0 0 (MQ below (z_Q G P) args s 0 0 (z_A G)) (F0 m pc la (st.map (z_v G)))
/-- a contract: what a method does with these arguments in this memory -/
def z_en (Y : zY) (as : List Value) : List (Option Value) := as.map some ++ List.replicate (Y.2.2.1 - as.length) none
def z_C (Y : zY) (as : List Value) (D : zM) (P : Option Int32 → zM → Prop) : Prop := z_Ok Y 0 (z_en Y as) [] D P
def z_pi (Q : Int32 → zM → Prop) : Option Int32 → zM → Prop := fun o D => match o with
  | some r => Q r D
  | none => False
def z_pv (Q : zM → Prop) : Option Int32 → zM → Prop := fun o D => match o with
  | some _ => False
  | none => Q D
abbrev z_Ci (Y : zY) (as : List Value) (D : zM) (Q : Int32 → zM → Prop) : Prop := z_C Y as D (z_pi Q)
abbrev z_Cv (Y : zY) (as : List Value) (D : zM) (Q : zM → Prop) : Prop := z_C Y as D (z_pv Q)
