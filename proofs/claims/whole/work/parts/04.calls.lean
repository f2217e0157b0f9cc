/-! CALLS: a contract is used at a call; the machine's own copy -/
section ZC
variable {Y : zY} {pc : Nat} {lv : List (Option Value)} {st : List Value} {D : zM} {P : Option Int32 → zM → Prop}
theorem z_ar_mem {G : zG} : ∀ (vs : List Value) (i : Nat), (∀ v ∈ vs, v.category = 1) → ∀ (j : Nat) (w : Value), vs[j]? = some w → (i + j, z_v G w) ∈ lv_args i (vs.map (z_v G))
  | [], _, _, j, w, h => by simp at h
  | v :: vs, i, hc, 0, w, h => by
    have e : v = w := by simpa using h
    subst e
    simp [lv_args]
  | v :: vs, i, hc, j + 1, w, h => by
    have e : ((z_v G v).category = 2) = False := by
      rw [z_v_cat, hc v List.mem_cons_self]
      simp
    simp only [List.map_cons, lv_args, e, if_false]
    refine List.mem_cons_of_mem _ ?_
    have := z_ar_mem (G := G) vs (i + 1) (fun x hx => hc x (List.mem_cons_of_mem _ hx)) j w (by simpa using h)
    rw [show i + (j + 1) = i + 1 + j by omega]
    exact this
theorem z_sl_len {G : zG} : ∀ (vs : List Value), (∀ v ∈ vs, v.category = 1) → (lg_sl (vs.map (z_v G))).length = vs.length
  | [], _ => rfl
  | v :: vs, hc => by
    have e : ((z_v G v).category = 2) = False := by
      rw [z_v_cat, hc v List.mem_cons_self]
      simp
    have := z_sl_len (G := G) vs (fun x hx => hc x (List.mem_cons_of_mem _ hx))
    simp only [lg_sl, List.map_cons, List.flatMap_cons, e, if_false, List.length_append, List.length_cons, List.length_nil] at this ⊢
    omega
theorem z_entryL {G : zG} {as : List Value} {n : Nat} (hn : as.length ≤ n) (hc : ∀ v ∈ as, v.category = 1) : z_Lv G ((lg_sl (as.map (z_v G)) ++ List.replicate (n - (lg_sl (as.map (z_v G))).length) Slot.unset).toArray) n (as.map some ++ List.replicate (n - as.length) none) := by
  have hl := lv_entry (as.map (z_v G)) (n := n) (by rw [z_sl_len as hc]; exact hn)
  have key : ∀ q ∈ z_ll G (as.map some ++ List.replicate (n - as.length) none), ∃ w, as[q.1]? = some w ∧ q.2 = z_v G w := by
    intro q hq
    obtain ⟨w, h1, h2⟩ := z_ll_mem.mp hq
    by_cases h : q.1 < as.length
    · rw [List.getElem?_append_left (by simpa using h), List.getElem?_map] at h1
      cases hx : as[q.1]? with
      | none => rw [hx] at h1; cases h1
      | some x =>
        rw [hx] at h1
        cases h1
        exact ⟨w, rfl, h2⟩
    · rw [List.getElem?_append_right (by simpa using h), List.getElem?_replicate] at h1
      split at h1
      · cases h1
      · cases h1
  refine ⟨⟨hl.1, hl.2.1, fun q hq => ?_⟩, fun q hq => ?_⟩
  · obtain ⟨w, h1, h2⟩ := key q hq
    have h3 := z_ar_mem (G := G) as 0 hc q.1 w h1
    rw [Nat.zero_add, ← h2] at h3
    exact hl.2.2 q h3
  · obtain ⟨w, h1, h2⟩ := key q hq
    rw [h2, z_v_cat]
    exact hc w (List.mem_of_getElem? h1)
/-- what a contract asks of the state in which the method begins -/
def z_Pr (G : zG) (D : zM) (U : State) : Prop := z_St G U ∧ va_P G.2.2.2.2 vwCl (z_W G D) U.heap
/-- a method that can be called: its words -/
def z_Mt (Y : zY) : Prop := Cond.code Y.1 Y.2.1 Y.2.2.1 Y.2.2.2.1 ∈ z_T ∧ Cond.initialized Y.1.cls ∈ z_T ∧ plainName Y.1.cls = true ∧ Y.1.cls ≠ "java/lang/invoke/MethodHandle" ∧ Y.1.cls ≠ "java/lang/invoke/VarHandle" ∧ Y.2.2.1 ≤ 9
theorem z_met {as : List Value} (hM : z_Mt Y) (hlen : as.length ≤ Y.2.2.1) (hcat : ∀ v ∈ as, v.category = 1) (hc : z_C Y as D P) (G : zG) (l : Launch) :
    Met l Y.1 (z_wd Y) (z_rm Y.2.2.2.2) (va_Pc (as.map (z_v G)) (z_Pr G D)) (z_Q G P) 0 0 (z_A G) := by
  refine Met.ofW (cc := Y.2.1) (maxL := Y.2.2.1) (ret := Y.2.2.2.1) hM.2.2.1 rfl ?_
  intro p e s m args below meth c s₁ B hml hv
  obtain ⟨rfl, hst, hP⟩ := hv
  have hts := atoms_spec (ws := z_wd Y) B.pre
  rw [lg_entry_eq]
  exact hc G p l e s m _ below meth c s.heap [] _ ⟨B.exec, B.bytes, B.returns, hml, findClass_of_methodNamed B.named, fun w hw => hts w (List.mem_cons_of_mem _ hw), B.notSynchronized, hst⟩ ⟨hP, va_S.rf⟩ (z_entryL hlen hcat)
theorem z_blind {as : List Value} {G : zG} {D : zM} : FrameBlind (va_Pc as (z_Pr G D)) := by
  intro a U g mk h
  obtain ⟨h1, h2, h3⟩ := h
  exact ⟨h1, ⟨va_K.moved (u := U) (U := U.calling g mk a) (Vm.Alike.refl U.vm) h2.1, va_Nw.same rfl rfl h2.2.1, h2.2.2⟩, h3⟩
theorem z_after {G : zG} {p : Program} {l : Launch} {e : Env} {R : Room} {s : State} {m : MethodId} {args : Array Value} {below : List Frame} {meth : Method} {c : Code} {H H0 : Heap} {locs : List Loc} {cells slots : Nat} {Q : State → Prop} {A0 : Nat → Prop} {pc : Nat} {ls : Array Slot} {rest st0 : List Value} {a : Array Value}
    (hr : va_Run p l e R s m args below meth c H locs cells slots 0 0 (F0 m pc ls st0) rest (z_Q G P a) (z_A G)) (hS : va_S A0 H0 H locs) (hA : ∀ q, z_A G q → A0 q)
    (kk : ∀ (r : Option Int32) (D' : zM) (H1 : Heap) (locs1 : List Loc), P r D' → va_P G.2.2.2.2 vwCl (z_W G D') H1 → va_S A0 H0 H1 locs1 → (∀ q : Nat, q < H.size → ¬ z_A G q → H1[q]? = H[q]?) → H.size ≤ H1.size → W p l e R s m args below meth c H1 locs1 cells slots Q (F0 m (pc + 3) ls ((r.map Value.int).toList ++ rest))) : W p l e R s m args below meth c H locs cells slots Q (F0 m pc ls st0) := by
  intro T hT X
  obtain ⟨v, st₀, t, T', L, h0, X', hL, e1, e2, ⟨⟨r, D', hv, hp, hb⟩, hz, hk⟩, st⟩ := hr T hT X
  cases hv
  rw [h0] at hz hk
  obtain ⟨t2, a1, b1⟩ := kk r D' T'.heap (locs ++ L) hp (by rw [e1]; exact hb)
    ⟨Nat.le_trans hS.1 (by rw [e1]; exact hz), fun q h1 h2 => by rw [e1, hk q (Nat.lt_of_lt_of_le h1 hS.1) (fun z => h2 (hA q z))]; exact hS.2.1 q h1 h2, fun q hq => by
      rcases List.mem_append.mp hq with h | h
      · exact hS.2.2 q h
      · exact hA _ (hL q h)⟩ (fun q h1 h2 => by rw [e1]; exact hk q h1 h2) (by rw [e1]; exact hz) T' rfl X'
  exact ⟨t2, st t2 a1, b1⟩
/-- the stack behind a call -/
def z_psh (r : Option Int32) (rest : List Value) : List Value := (r.map Value.int).toList ++ rest
theorem z_psh_v {G : zG} (r : Option Int32) (rest : List Value) : (z_psh r rest).map (z_v G) = (r.map Value.int).toList ++ rest.map (z_v G) := by
  cases r <;> rfl
theorem z_room8 {G : zG} {m : MethodId} {pc : Nat} {ls : Array Slot} {st0 rest : List Value} (h : (rest.map fun v => v.category).sum ≤ 8) : 2 * (F0 m pc ls st0).monitorRoom + ((rest.map (z_v G)).map fun v => v.category).sum ≤ 8 := by
  refine lv_room ?_
  rw [List.map_map]
  have : (fun v => v.category) ∘ z_v G = (fun v => v.category) := funext fun v => z_v_cat G v
  rw [this]
  exact h
def z_Pn (Y : zY) (n : Nat) : Prop := (parseMethodDescriptor Y.1.desc).map (fun d => d.parameters.length) = some n
/-- an instance method, called on the object at the place b -/
theorem z_callV {Z : zY} {idx n b ci : Nat} {fs : List (Option Nat)} {T : u_T} {N : Nat} {P' : Option Int32 → zM → Prop} (as : List Value) (rest : List Value) (hd : decode Y.2.1 pc = .ok (.invokevirtual idx, 3)) (hM : z_Mt Z) (hw : Cond.methodLink Y.1.cls idx Z.1 ∈ z_T ∧ Cond.instanceMethod Z.1 ∈ z_T ∧ Cond.selects Z.1.cls Z.1 Z.1 ∈ z_T) (hlev : Z.2.2.2.2 + 1 ≤ Y.2.2.2.2) (hpn : z_Pn Z n)
    (hs : z_sh[b]? = some (.inl (ci, fs))) (hcl : vwCl[ci]? = some (Z.1.cls, T, N)) (hst : st = as.reverse ++ .ref b :: rest) (hn : as.length = n) (hnl : as.length + 1 ≤ Z.2.2.1) (hcat : ∀ v ∈ as, v.category = 1) (h8 : (rest.map fun v => v.category).sum ≤ 8)
    (hC : z_C Z (.ref b :: as) D P') (kk : ∀ r D', P' r D' → z_Ok Y (pc + 3) lv (z_psh r rest) D' P) : z_Ok Y pc lv st D P := by
  intro G p l e s m args below meth c H locs la C hp hl
  have hmet := z_met hM (as := .ref b :: as) (by simpa using hnl) (fun v hv => (List.mem_cons.mp hv).elim (fun e => by rw [e]; rfl) (hcat v)) hC G l
  have hcell := va_recv (q0 := b) C.2.2.2.2.2.2.2.1 hp.1 hcl (z_at hs)
  have hts := C.2.2.2.2.2.1
  have hB := callB_of (s := s) (args := args) (own := Y.1.cls) (index := idx) (R := z_rm Y.2.2.2.2) n hts (z_good hM.1) (rfl : z_wd Z = _ :: z_T) (rm := z_rm Z.2.2.2.2) (mc := 0) (ms := 0) rfl rfl (hts _ hM.2.1) (hts _ hw.1) ⟨hM.2.2.2.1, hM.2.2.2.2.1, hpn⟩ ⟨hlev, by
    show 8 + (Z.2.2.1 + 11) + 30 * Z.2.2.2.2 ≤ 30 * Y.2.2.2.2
    have := hM.2.2.2.2.2
    omega⟩
  have hrun := va_runV (p := p) (l := l) (e := e) (below := below) (meth := meth) (c := c) (locs := locs) (cells := 0) (slots := 0) (H := H) (As := as.map (z_v G)) (rest := rest.map (z_v G)) (b := G.1 b) (C := Z.1.cls) (g := F0 m pc la (st.map (z_v G)))
    ⟨C.1, C.2.1, C.2.2.2.1, C.2.2.2.2.1, hts⟩ hmet ⟨hB, hts _ hw.2.1, hts _ hw.2.2⟩ ⟨z_blind, hcell, fun U hU hW => ⟨rfl, C.2.2.2.2.2.2.2.warm hW, by rw [hU]; exact hp.1⟩⟩ rfl (by rw [List.length_map]; exact hn) hl.1.1 (by rw [hst]; simp [z_v]) (z_room8 h8) hd ⟨Nat.le_refl 0, Nat.le_refl 0⟩
  refine z_after hrun hp.2 (fun _ h => h) (fun r D' H1 locs1 hPr hP1 hS1 _ _ => ?_)
  have := kk r D' hPr G p l e s m args below meth c H1 locs1 la C ⟨hP1, hS1⟩ hl
  rw [z_psh_v] at this
  exact this
/-- a static method -/
theorem z_callS {Z : zY} {idx n : Nat} {P' : Option Int32 → zM → Prop} (as : List Value) (rest : List Value) (hd : decode Y.2.1 pc = .ok (.invokestatic idx, 3)) (hM : z_Mt Z) (hw : Cond.methodLink Y.1.cls idx Z.1 ∈ z_T ∧ Cond.static Z.1 ∈ z_T) (hlev : Z.2.2.2.2 + 1 ≤ Y.2.2.2.2) (hpn : z_Pn Z n)
    (hst : st = as.reverse ++ rest) (hn : as.length = n) (hnl : as.length ≤ Z.2.2.1) (hcat : ∀ v ∈ as, v.category = 1) (h8 : (rest.map fun v => v.category).sum ≤ 8)
    (hC : z_C Z as D P') (kk : ∀ r D', P' r D' → z_Ok Y (pc + 3) lv (z_psh r rest) D' P) : z_Ok Y pc lv st D P := by
  intro G p l e s m args below meth c H locs la C hp hl
  have hmet := z_met hM (as := as) hnl hcat hC G l
  have hts := C.2.2.2.2.2.1
  have hB := callB_of (s := s) (args := args) (own := Y.1.cls) (index := idx) (R := z_rm Y.2.2.2.2) n hts (z_good hM.1) (rfl : z_wd Z = _ :: z_T) (rm := z_rm Z.2.2.2.2) (mc := 0) (ms := 0) rfl rfl (hts _ hM.2.1) (hts _ hw.1) ⟨hM.2.2.2.1, hM.2.2.2.2.1, hpn⟩ ⟨hlev, by
    show 8 + (Z.2.2.1 + 11) + 30 * Z.2.2.2.2 ≤ 30 * Y.2.2.2.2
    have := hM.2.2.2.2.2
    omega⟩
  have hrun := va_runS (p := p) (l := l) (e := e) (below := below) (meth := meth) (c := c) (locs := locs) (cells := 0) (slots := 0) (H := H) (As := as.map (z_v G)) (rest := rest.map (z_v G)) (g := F0 m pc la (st.map (z_v G)))
    ⟨C.1, C.2.1, C.2.2.2.1, C.2.2.2.2.1, hts⟩ hmet ⟨hB, hts _ hw.2⟩ ⟨z_blind, fun U hU hW => ⟨rfl, C.2.2.2.2.2.2.2.warm hW, by rw [hU]; exact hp.1⟩⟩ rfl (by rw [List.length_map]; exact hn) hl.1.1 (by rw [hst]; simp) (z_room8 h8) hd ⟨Nat.le_refl 0, Nat.le_refl 0⟩
  refine z_after hrun hp.2 (fun _ h => h) (fun r D' H1 locs1 hPr hP1 hS1 _ _ => ?_)
  have := kk r D' hPr G p l e s m args below meth c H1 locs1 la C ⟨hP1, hS1⟩ hl
  rw [z_psh_v] at this
  exact this
/-- the one call of a nest mate: WaySigns.holds out of Follower -/
theorem z_callN {P' : Option Int32 → zM → Prop} {n : Nat} (as : List Value) (rest : List Value) (hy : Y.1.cls = RX1) (hd : decode Y.2.1 pc = .ok (.invokestatic 47, 3)) (hM : z_Mt mX3_holds) (hw : Cond.static mX3_holds.1 ∈ z_T) (hlev : mX3_holds.2.2.2.2 + 1 ≤ Y.2.2.2.2) (hpn : z_Pn mX3_holds n)
    (hst : st = as.reverse ++ rest) (hn : as.length = n) (hnl : as.length ≤ mX3_holds.2.2.1) (hcat : ∀ v ∈ as, v.category = 1) (h8 : (rest.map fun v => v.category).sum ≤ 8)
    (hC : z_C mX3_holds as D P') (kk : ∀ r D', P' r D' → z_Ok Y (pc + 3) lv (z_psh r rest) D' P) : z_Ok Y pc lv st D P := by
  intro G p l e s m args below meth c H locs la C hp hl
  have hmet := z_met hM (as := as) hnl hcat hC G l
  have hts := C.2.2.2.2.2.1
  have hB := va_cnB (s := s) (args := args) (own := RX1) (host := RX3) (index := 47) (R := z_rm Y.2.2.2.2) n hts (z_good hM.1) (rfl : z_wd mX3_holds = _ :: z_T) (rm := z_rm mX3_holds.2.2.2.2) (mc := 0) (ms := 0) rfl rfl C.2.2.2.2.2.2.2.2.1 (hts _ hM.2.1) ⟨hM.2.2.2.1, hM.2.2.2.2.1, hpn⟩ ⟨hlev, by
    show 8 + (mX3_holds.2.2.1 + 11) + 30 * mX3_holds.2.2.2.2 ≤ 30 * Y.2.2.2.2
    have := hM.2.2.2.2.2
    omega⟩
  have hrun := va_runSN (p := p) (l := l) (e := e) (below := below) (meth := meth) (c := c) (locs := locs) (cells := 0) (slots := 0) (H := H) (As := as.map (z_v G)) (rest := rest.map (z_v G)) (g := F0 m pc la (st.map (z_v G)))
    ⟨C.1, C.2.1, C.2.2.2.1, by rw [← hy]; exact C.2.2.2.2.1, hts⟩ hmet ⟨hB, hts _ hw, trivial⟩ ⟨z_blind, fun U hU hW => ⟨rfl, C.2.2.2.2.2.2.2.warm hW, by rw [hU]; exact hp.1⟩⟩ rfl (by rw [List.length_map]; exact hn) hl.1.1 (by rw [hst]; simp) (z_room8 h8) hd ⟨Nat.le_refl 0, Nat.le_refl 0⟩
  refine z_after hrun hp.2 (fun _ h => h) (fun r D' H1 locs1 hPr hP1 hS1 _ _ => ?_)
  have := kk r D' hPr G p l e s m args below meth c H1 locs1 la C ⟨hP1, hS1⟩ hl
  rw [z_psh_v] at this
  exact this
/-- the machine's copy of rows of numbers -/
theorem z_copy {idx q0 q1 n0 n1 : Nat} {sp dp n : Int32} {rest : List Value} (hd : decode Y.2.1 pc = .ok (.invokestatic idx, 3)) (hw : Cond.methodLink Y.1.cls idx arraycopyName ∈ z_T ∧ Cond.native arraycopyName ∈ z_T ∧ Cond.static arraycopyName ∈ z_T ∧ Cond.initialized "java/lang/System" ∈ z_T) (hlev : 1 ≤ Y.2.2.2.2)
    (hs0 : z_sh[q0]? = some (.inr (.inl (0, n0)))) (hs1 : z_sh[q1]? = some (.inr (.inl (0, n1)))) (h1 : ¬ sp < 0) (h2 : ¬ dp < 0) (h3 : ¬ n < 0) (h4 : sp.toNatClampNeg + n.toNatClampNeg ≤ n0) (h5 : dp.toNatClampNeg + n.toNatClampNeg ≤ n1) (hr : rest = [])
    (kk : z_Ok Y (pc + 3) lv rest (z_row D q1 (va_cpy (D q0) (D q1) sp.toNatClampNeg dp.toNatClampNeg n.toNatClampNeg)) P) : z_Ok Y pc lv (.int n :: .int dp :: .ref q1 :: .int sp :: .ref q0 :: rest) D P := by
  intro G p l e s m args below meth c H locs la C hp hl
  have hts := C.2.2.2.2.2.1
  subst hr
  refine va_copyi (ty := .int) C.1 C.2.1 (C.2.2.2.1.trans hl.1.1.symm) C.2.2.2.2.1 (hts _ hw.1) (hts _ hw.2.1) (hts _ hw.2.2.1) (hts _ hw.2.2.2) C.2.2.2.2.2.2.2.1 hp.1 (z_D C.2.2.2.2.2.2.2.2.2 D) hp.2 q0 q1 0 0 (z_at hs0) (z_at hs1) rfl rfl rfl h1 h2 h3 h4 h5 (fun i _ => rfl) hlev (by
    show 0 + (nativeFrameWords "java/lang/System" "arraycopy" 5 + 11) ≤ 30 * Y.2.2.2.2
    have : nativeFrameWords "java/lang/System" "arraycopy" 5 + 11 ≤ 30 := by decide +kernel
    omega) hd (fun H1 locs1 hP _ hS => ?_)
  refine kk G p l e s m args below meth c H1 locs1 la C ⟨?_, hS⟩ hl
  have e1 := z_W_row (G := G) (D := D) (q := q1) (f := va_cpy (D q0) (D q1) sp.toNatClampNeg dp.toNatClampNeg n.toNatClampNeg) hs1
  exact e1 ▸ hP
theorem z_mmax {idx : Nat} {x y : Int32} {rest : List Value} (hd : decode Y.2.1 pc = .ok (.invokestatic idx, 3)) (hw : Cond.methodLink Y.1.cls idx Lib.Math.max.name ∈ z_T ∧ Cond.static Lib.Math.max.name ∈ z_T ∧ Cond.initialized "java/lang/Math" ∈ z_T ∧ Cond.code Lib.Math.max.name Lib.Math.max.code 2 (some .int) ∈ z_T) (hlev : 1 ≤ Y.2.2.2.2) (h8 : (rest.map fun v => v.category).sum ≤ 8)
    (kk : z_Ok Y (pc + 3) lv (.int (if x < y then y else x) :: rest) D P) : z_Ok Y pc lv (.int y :: .int x :: rest) D P := by
  intro G p l e s m args below meth c H locs la C hp hl
  have hts := C.2.2.2.2.2.1
  refine va_mmax C.1 C.2.1 (C.2.2.2.1.trans hl.1.1.symm) C.2.2.2.2.1 (hts _ hw.1) (hts _ hw.2.1) (hts _ hw.2.2.1) (hts _ hw.2.2.2) hlev ?_ (Nat.le_refl 0) (Nat.le_refl 0) hd (kk G p l e s m args below meth c H locs la C hp hl)
  have h9 := z_room8 (G := G) (m := m) (pc := pc) (ls := la) (st0 := []) h8
  show _ + 13 ≤ 30 * Y.2.2.2.2
  omega
theorem z_mmin {idx : Nat} {x y : Int32} {rest : List Value} (hd : decode Y.2.1 pc = .ok (.invokestatic idx, 3)) (hw : Cond.methodLink Y.1.cls idx Lib.Math.min.name ∈ z_T ∧ Cond.static Lib.Math.min.name ∈ z_T ∧ Cond.initialized "java/lang/Math" ∈ z_T ∧ Cond.code Lib.Math.min.name Lib.Math.min.code 2 (some .int) ∈ z_T) (hlev : 1 ≤ Y.2.2.2.2) (h8 : (rest.map fun v => v.category).sum ≤ 8)
    (kk : z_Ok Y (pc + 3) lv (.int (if y < x then y else x) :: rest) D P) : z_Ok Y pc lv (.int y :: .int x :: rest) D P := by
  intro G p l e s m args below meth c H locs la C hp hl
  have hts := C.2.2.2.2.2.1
  refine va_mmin C.1 C.2.1 (C.2.2.2.1.trans hl.1.1.symm) C.2.2.2.2.1 (hts _ hw.1) (hts _ hw.2.1) (hts _ hw.2.2.1) (hts _ hw.2.2.2) hlev ?_ (Nat.le_refl 0) (Nat.le_refl 0) hd (kk G p l e s m args below meth c H locs la C hp hl)
  have h9 := z_room8 (G := G) (m := m) (pc := pc) (ls := la) (st0 := []) h8
  show _ + 13 ≤ 30 * Y.2.2.2.2
  omega
end ZC
