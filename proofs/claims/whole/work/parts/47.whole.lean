/-! THE WHOLE: from the law's entry -/
theorem n_nrr {c : ClassId} {n q : Nat} {r t : Nat → Nat} (h : ∀ i, i < n → r i = t i) : nrr c n r q = nrr c n t q := by
  have e : (fun i => if i < n then some (r i) else none) = (fun i => if i < n then some (t i) else none) := funext (fun i => by
    by_cases hi : i < n
    · rw [if_pos hi, if_pos hi, h i hi]
    · rw [if_neg hi, if_neg hi])
  unfold nrr
  rw [e]
theorem n_rows_c {c : ClassId} {n k : Nat} {r t : Nat → Nat} (h : ∀ i, i < n → r i = t i) : n_rows c n k r = n_rows c n k t := by
  unfold n_rows
  exact List.map_congr_left (fun i hi => by rw [h i (List.mem_range.mp hi)])
theorem W0_c {E : nE} {q : Nat} {u r t : Nat → Nat} (h : ∀ i, i < 10 → r i = t i) : W0 E q u r = W0 E q u t := by
  unfold W0
  rw [n_nrr h, n_rows_c h]
theorem W2_c {E : nE} {q : Nat} {u r t r' t' : Nat → Nat} (h : ∀ i, i < 5 → r i = r' i) (h2 : ∀ i, i < 5 → t i = t' i) : W2 E q u r t = W2 E q u r' t' := by
  unfold W2
  rw [n_nrr h, n_rows_c h, n_nrr h2, n_rows_c h2]
theorem W3_c {E : nE} {h b g f o : Nat} {uB rB uG rG tG uF uO rb u rB' rG' tG' rb' : Nat → Nat} {gs : Nat → Nat → Int32} (h1 : ∀ i, i < 10 → rB i = rB' i) (h2 : ∀ i, i < 5 → rG i = rG' i) (h3 : ∀ i, i < 5 → tG i = tG' i) (h4 : ∀ i, i < 5 → rb i = rb' i) : W3 E h b g f o uB rB uG rG tG uF uO rb u gs = W3 E h b g f o uB rB' uG rG' tG' uF uO rb' u gs := by
  unfold W3
  rw [W0_c h1, W2_c h2 h3, n_nrr h4, h4 0 (by omega), h4 1 (by omega), h4 2 (by omega), h4 3 (by omega), h4 4 (by omega)]
/-- the memory at the start -/
def D0 (gs : Nat → Nat → Int32) (fM : Nat → Int32) : zM := fun q => bif Nat.beq q 0 then (fun k => bif Nat.ble 10 k then -9 else 0) else bif Nat.beq q 40 then gs 0 else bif Nat.beq q 41 then gs 1 else bif Nat.beq q 42 then gs 2 else bif Nat.beq q 43 then gs 3 else bif Nat.beq q 44 then gs 4 else bif Nat.beq q 52 then fM else n_z
theorem D0_zI {gs : Nat → Nat → Int32} {fM : Nat → Int32} (hg : ∀ n, n < 5 → ∀ x, x < 10 → gs n x = -9) (hf : ∀ x, x < 50 → fM x = -9) : zI (D0 gs fM) (fun _ _ => 0) := by
  refine ⟨⟨Nat.zero_le _, Nat.zero_le _, by show 0 < 1024; omega, Nat.zero_le _, fun k hk => absurd hk (Nat.not_lt_zero _), fun k hk => absurd hk (Nat.not_lt_zero _), fun _ _ => Nat.zero_le _⟩, ⟨rfl, rfl, rfl, rfl, fun k hk => absurd hk (Nat.not_lt_zero _), fun k hk => absurd hk (Nat.not_lt_zero _), fun x hx => hf x hx⟩, ⟨rfl, rfl, rfl, rfl, fun k hk => absurd hk (Nat.not_lt_zero _), fun k hk => absurd hk (Nat.not_lt_zero _), fun p hp n hn => ?_, fun p hp => ?_, fun i hi q hq => ?_⟩⟩
  · rcases (show n = 0 ∨ n = 1 ∨ n = 2 ∨ n = 3 ∨ n = 4 by omega) with rfl | rfl | rfl | rfl | rfl
    · exact hg 0 hn p hp
    · exact hg 1 hn p hp
    · exact hg 2 hn p hp
    · exact hg 3 hn p hp
    · exact hg 4 hn p hp
  · rw [bm_false (f := oa (fun _ _ => 0) p) (fun q _ => rfl)]
    rfl
  · rcases (show i = 0 ∨ i = 1 ∨ i = 2 ∨ i = 3 ∨ i = 4 ∨ i = 5 ∨ i = 6 ∨ i = 7 ∨ i = 8 ∨ i = 9 by omega) with rfl | rfl | rfl | rfl | rfl | rfl | rfl | rfl | rfl | rfl <;> rfl
section ZW
variable {p : Program} {l : Launch} {e : Env} {R : Room} {s : State} {m : MethodId} {args : Array Value} {below : List Frame} {meth : Method} {c : Code} {H H0 : Heap} {locs : List Loc} {cells slots : Nat} {Q : State → Prop} {cc : ByteArray} {nL pc : Nat} {la : Array Slot} {rest : List Value} {w0 : va_W} {E : nE} {A : Nat → Prop} {own : String} {lv : List (Nat × Value)}
theorem lw_init {Z : zY} {RZ : Room} {PZ : va_W → Prop} {idx q : Nat} {e0 : va_E} (hx : p.tables.exec = Jvm.exec) (hb : c.code = cc) (hml : c.maxLocals = nL) (hown : s.vm.findClass own = some m.cls) (hts : ∀ w ∈ z_T, w.before args s = true) (hK : n_K E s) (hP : va_P E.1 vwCl (w0 ++ [(q, e0)]) H) (hD : va_D A (w0 ++ [(q, e0)])) (hS : va_S A H0 H locs) (hA : ∀ q, H0.size ≤ q → A q) (hl : lv_has la nL lv)
    (hd : decode cc pc = .ok (.invokespecial idx, 3)) (hM : z_Mt Z) (hw : Cond.methodLink own idx Z.1 ∈ z_T ∧ Cond.instanceMethod Z.1 ∈ z_T) (hnm : Z.1.name = "<init>") (hpn : z_Pn Z 0) (hr : Z.2.2.2.1 = none) (hR : RZ.frames + 1 ≤ R.frames ∧ 8 + (Z.2.2.1 + 11) + RZ.locals ≤ R.locals) (hc : cells + RZ.cells ≤ R.cells ∧ slots + RZ.slots ≤ R.slots) (h8 : (rest.map fun v => v.category).sum ≤ 8) (h1 : 1 ≤ Z.2.2.1)
    (hC : n_Ok E Z RZ 0 [(0, .ref q)] [] [(q, e0)] 0 0 PZ) (kk : ∀ (w1 : va_W) (H1 : Heap) (locs1 : List Loc), PZ w1 → va_P E.1 vwCl (w0 ++ w1) H1 → va_D A (w0 ++ w1) → va_S A H0 H1 locs1 → W p l e R s m args below meth c H1 locs1 (cells + RZ.cells) (slots + RZ.slots) Q (F0 m (pc + 3) la rest)) : W p l e R s m args below meth c H locs cells slots Q (F0 m pc la (.ref q :: rest)) := by
  have hmet := n_met (as := [.ref q]) hM hr h1 rfl hC l H.size
  have hj : (w0 ++ [(q, e0)])[w0.length]? = some (q, e0) := by rw [List.getElem?_append_right (Nat.le_refl _), Nat.sub_self]; rfl
  have hFr := n_fr hD hS hA hj
  have hcw := cwI (s := s) (args := args) (own := own) (index := idx) (R := R) 0 hts (z_good hM.1) (show z_wd Z = Cond.code Z.1 Z.2.1 Z.2.2.1 none :: z_T by unfold z_wd; rw [hr]) (rm := RZ) rfl rfl (hts _ hM.2.1) (hts _ hw.1) (hts _ hw.2) hnm ⟨hM.2.2.2.1, hM.2.2.2.2.1, hpn⟩ hR
  have hrun := va_runI (p := p) (l := l) (e := e) (below := below) (meth := meth) (c := c) (locs := locs) (cells := cells) (slots := slots) (H := H) (As := []) (rest := rest) (b := q) (g := F0 m pc la (.ref q :: rest))
    ⟨hx, hb, hml, hown, hts⟩ hmet hcw ⟨n_blind, fun U hU hW => ⟨rfl, by rw [hU], by rw [hU]; exact n_one hP hj, n_K.moved hW.alike hK⟩⟩ rfl rfl hl.1 rfl (lv_room h8) hd hc
  refine va_callv hrun hS (fun q _ h => hFr q h) hFr (fun w1 t H1 locs1 ht hvm hw1 hB hz hk hS1 => ?_)
  obtain ⟨hP1, hD1⟩ := hB
  rw [ht] at hP1
  obtain ⟨hP2, hD2⟩ := n_join hP hD hk hFr hP1 hD1
  exact kk w1 H1 locs1 hw1 hP2 hD2 hS1
theorem lw_new {idx ci N : Nat} {fs : List Value} (hx : p.tables.exec = Jvm.exec) (hb : c.code = cc) (hown : s.vm.findClass own = some m.cls) (hts : ∀ w ∈ z_T, w.before args s = true) (hK : n_K E s) (hP : va_P E.1 vwCl w0 H) (hD : va_D A w0) (hS : va_S A H0 H locs) (hA : ∀ q, H0.size ≤ q → A q) (hd : decode cc pc = .ok (.new idx, 3)) (hN : n_N own idx ci N fs) (hc : cells + 1 ≤ R.cells ∧ slots + N ≤ R.slots)
    (kk : ∀ (q : Nat) (H1 : Heap), va_P E.1 vwCl (w0 ++ [(q, .inr (ci, fs))]) H1 → va_D A (w0 ++ [(q, .inr (ci, fs))]) → va_S A H0 H1 locs → W p l e R s m args below meth c H1 locs (cells + 1) (slots + N) Q (F0 m (pc + 3) la (.ref q :: rest))) : W p l e R s m args below meth c H locs cells slots Q (F0 m pc la rest) := by
  obtain ⟨CN, T, ty, h1, h2, h3, h4, h5, h6, h7⟩ := hN
  exact va_new (fs := fs) hx hb hts h2 ty h3 hown (hts _ h4) (hts _ h5) (hts _ h6) hK.1 hP hD hS hA h1 h7 hc.1 hc.2 hd kk
end ZW
theorem lw_nest : z_nest ∈ lw_tbl := List.mem_of_getElem? (i := 303) rfl
theorem lw_over : Cond.arrayOver (.array .int) ∈ lw_tbl := List.mem_of_getElem? (i := 60) rfl
/-- what the tables say of the classes and of the rows, at the entry -/
theorem lw_K {s : State} {args : Array Value} (hts : ∀ w ∈ lw_tbl, w.before args s = true) : ∃ E : nE, n_K E s := by
  have hz : ∀ w ∈ z_T, w.before args s = true := fun w hw => hts w (List.mem_filter.mp hw).1
  obtain ⟨-, -, -, -, -, -, -, hi3, -⟩ := nnRL_7
  have mk : ∀ {C : String} {T : u_T} {N : Nat}, (∀ w ∈ u_ws C T N, w ∈ z_T) → Cond.instantiable C N ∈ z_T → ∃ (cC : ClassId) (iS : Nat → Nat), u_Kn s C T N cC iS := fun h1 h2 => u_known hz h1 (hz _ h2)
  obtain ⟨c0, i0, k0⟩ := mk wsX0 (z_mem 54 rfl rfl)
  obtain ⟨c1, i1, k1⟩ := mk wsX1 (z_mem 120 rfl rfl)
  obtain ⟨c2, i2, k2⟩ := mk wsX2 (z_mem 100 rfl rfl)
  obtain ⟨c3, i3, k3⟩ := mk wsX3 (z_mem 46 rfl rfl)
  obtain ⟨c4, i4, k4⟩ := mk wsX4 (z_mem 407 rfl rfl)
  obtain ⟨cI, kI, pI, a1, a2, a3⟩ := Cond.arrayClass_spec (hz _ nAI)
  obtain ⟨cZ, kZ, pZ, b1, b2, b3⟩ := Cond.arrayClass_spec (hz _ nAZ)
  have ho : (Cond.arrayOver (.array .int)).before #[] s = true := over_moved (Vm.Alike.refl s.vm) (hts _ lw_over)
  obtain ⟨pA, cA, kA, -, -, d2, d3, d1⟩ := arrayOverA_spec ho
  refine ⟨((fun k => [c0, c1, c2, c3, c4].getD k c0, fun k => [i0, i1, i2, i3, i4].getD k i0), cI, cZ, cA), ⟨fun k q hq => ?_, fun k q hq => ?_⟩, ho⟩
  · match k, hq with
    | 0, hq => cases hq; exact k0
    | 1, hq => cases hq; exact k1
    | 2, hq => cases hq; exact k2
    | 3, hq => cases hq; exact k3
    | 4, hq => cases hq; exact k4
    | k + 5, hq => cases hq
  · match k, hq with
    | 0, hq => cases hq; exact ⟨fun N z => ⟨(fun q hq => by cases hq), kI, a2, pI, a3⟩, a1⟩
    | 1, hq => cases hq; exact ⟨fun N z => ⟨(fun q hq => by cases hq), kZ, b2, pZ, b3⟩, b1⟩
    | 2, hq => cases hq; exact ⟨fun N z => ⟨(fun q hq => by cases hq), kA, d2, pA, d3⟩, d1⟩
    | k + 3, hq => cases hq
def n_ad (b q0 bB gG fF oO qM : Nat) (uB rB uG rG tG uF uO rb u uM : Nat → Nat) : Nat → Nat := fun k => ([q0, bB, uB 0, uB 1, uB 2, uB 3, uB 4, uB 5, rB 0, rB 1, rB 2, rB 3, rB 4, rB 5, rB 6, rB 7, rB 8, rB 9, gG, uG 0, rG 0, rG 1, rG 2, rG 3, rG 4, uG 1, tG 0, tG 1, tG 2, tG 3, tG 4, uG 2, fF, uF 0, uF 1, oO, uO 0, uO 1, u 0, u 1, rb 0, rb 1, rb 2, rb 3, rb 4, u 2, qM, uM 0, uM 1, uM 2, uM 3, uM 4, uM 5, uM 6, uM 7, uM 8, uM 9, uM 10, uM 11] : List Nat).getD k b
theorem z_fld46 (ad : Nat → Nat) (f : Nat → Int32) : z_fld ad f [none, some 47, some 48, some 49, some 50, none, some 51, none, none, some 52, some 53, some 54, some 55, none, none, none, some 56, none, none, some 57, some 58] = [.int (f 0), .ref (ad 47), .ref (ad 48), .ref (ad 49), .ref (ad 50), .int (f 5), .ref (ad 51), .int (f 7), .int (f 8), .ref (ad 52), .ref (ad 53), .ref (ad 54), .ref (ad 55), .int (f 13), .int (f 14), .int (f 15), .ref (ad 56), .int (f 17), .int (f 18), .ref (ad 57), .ref (ad 58)] := by
  simp only [z_fld, List.mapIdx_cons, List.mapIdx_nil, z_f1]
theorem n_ad46 (b q0 bB gG fF oO qM : Nat) (uB rB uG rG tG uF uO rb u uM : Nat → Nat) (i : Nat) (hi : i < 12) : n_ad b q0 bB gG fF oO qM uB rB uG rG tG uF uO rb u uM (47 + i) = uM i := by
  rcases (show i = 0 ∨ i = 1 ∨ i = 2 ∨ i = 3 ∨ i = 4 ∨ i = 5 ∨ i = 6 ∨ i = 7 ∨ i = 8 ∨ i = 9 ∨ i = 10 ∨ i = 11 by omega) with rfl | rfl | rfl | rfl | rfl | rfl | rfl | rfl | rfl | rfl | rfl | rfl <;> rfl
theorem w_46 {E : nE} {b q0 bB gG fF oO qM : Nat} {uB rB uG rG tG uF uO rb u uM r1 r2 r3 r4 : Nat → Nat} {gs : Nat → Nat → Int32} {fM : Nat → Int32} : (W3 E q0 bB gG fF oO uB r1 uG r2 r3 uF uO r4 u gs ++ W4 E qM uM fM)[46]? = some (n_ad b q0 bB gG fF oO qM uB rB uG rG tG uF uO rb u uM 46, z_cell (n_ad b q0 bB gG fF oO qM uB rB uG rG tG uF uO rb u uM, E.2.1, E.2.2.1, E.2.2.2, E.1) (D0 gs fM 46) (.inl (4, [none, some 47, some 48, some 49, some 50, none, some 51, none, none, some 52, some 53, some 54, some 55, none, none, none, some 56, none, none, some 57, some 58]))) := by
  show some _ = some (qM, (Sum.inr (4, z_fld (n_ad b q0 bB gG fF oO qM uB rB uG rG tG uF uO rb u uM) _ _) : va_E))
  rw [z_fld46]
  have h := n_ad46 b q0 bB gG fF oO qM uB rB uG rG tG uF uO rb u uM
  rw [show n_ad b q0 bB gG fF oO qM uB rB uG rG tG uF uO rb u uM 47 = uM 0 from h 0 (by omega), show n_ad b q0 bB gG fF oO qM uB rB uG rG tG uF uO rb u uM 48 = uM 1 from h 1 (by omega), show n_ad b q0 bB gG fF oO qM uB rB uG rG tG uF uO rb u uM 49 = uM 2 from h 2 (by omega), show n_ad b q0 bB gG fF oO qM uB rB uG rG tG uF uO rb u uM 50 = uM 3 from h 3 (by omega), show n_ad b q0 bB gG fF oO qM uB rB uG rG tG uF uO rb u uM 51 = uM 4 from h 4 (by omega), show n_ad b q0 bB gG fF oO qM uB rB uG rG tG uF uO rb u uM 52 = uM 5 from h 5 (by omega), show n_ad b q0 bB gG fF oO qM uB rB uG rG tG uF uO rb u uM 53 = uM 6 from h 6 (by omega), show n_ad b q0 bB gG fF oO qM uB rB uG rG tG uF uO rb u uM 54 = uM 7 from h 7 (by omega), show n_ad b q0 bB gG fF oO qM uB rB uG rG tG uF uO rb u uM 55 = uM 8 from h 8 (by omega), show n_ad b q0 bB gG fF oO qM uB rB uG rG tG uF uO rb u uM 56 = uM 9 from h 9 (by omega), show n_ad b q0 bB gG fF oO qM uB rB uG rG tG uF uO rb u uM 57 = uM 10 from h 10 (by omega), show n_ad b q0 bB gG fF oO qM uB rB uG rG tG uF uO rb u uM 58 = uM 11 from h 11 (by omega)]
  rfl
set_option maxHeartbeats 8000000 in
theorem w_at {E : nE} {b q0 bB gG fF oO qM : Nat} {uB rB uG rG tG uF uO rb u uM : Nat → Nat} {gs : Nat → Nat → Int32} {fM : Nat → Int32} {ad : Nat → Nat} (had : n_ad b q0 bB gG fF oO qM uB rB uG rG tG uF uO rb u uM = ad) : W3 E q0 bB gG fF oO uB (fun i => ad (8 + i)) uG (fun i => ad (20 + i)) (fun i => ad (26 + i)) uF uO (fun i => ad (40 + i)) u gs ++ W4 E qM uM fM = z_W (ad, E.2.1, E.2.2.1, E.2.2.2, E.1) (D0 gs fM) := by
  subst had
  apply List.ext_getElem?
  intro k
  by_cases hk : k < 59
  · rcases (show k = 0 ∨ k = 1 ∨ k = 2 ∨ k = 3 ∨ k = 4 ∨ k = 5 ∨ k = 6 ∨ k = 7 ∨ k = 8 ∨ k = 9 ∨ k = 10 ∨ k = 11 ∨ k = 12 ∨ k = 13 ∨ k = 14 ∨ k = 15 ∨ k = 16 ∨ k = 17 ∨ k = 18 ∨ k = 19 ∨ k = 20 ∨ k = 21 ∨ k = 22 ∨ k = 23 ∨ k = 24 ∨ k = 25 ∨ k = 26 ∨ k = 27 ∨ k = 28 ∨ k = 29 ∨ k = 30 ∨ k = 31 ∨ k = 32 ∨ k = 33 ∨ k = 34 ∨ k = 35 ∨ k = 36 ∨ k = 37 ∨ k = 38 ∨ k = 39 ∨ k = 40 ∨ k = 41 ∨ k = 42 ∨ k = 43 ∨ k = 44 ∨ k = 45 ∨ k = 46 ∨ k = 47 ∨ k = 48 ∨ k = 49 ∨ k = 50 ∨ k = 51 ∨ k = 52 ∨ k = 53 ∨ k = 54 ∨ k = 55 ∨ k = 56 ∨ k = 57 ∨ k = 58 by omega) with rfl | rfl | rfl | rfl | rfl | rfl | rfl | rfl | rfl | rfl | rfl | rfl | rfl | rfl | rfl | rfl | rfl | rfl | rfl | rfl | rfl | rfl | rfl | rfl | rfl | rfl | rfl | rfl | rfl | rfl | rfl | rfl | rfl | rfl | rfl | rfl | rfl | rfl | rfl | rfl | rfl | rfl | rfl | rfl | rfl | rfl | rfl | rfl | rfl | rfl | rfl | rfl | rfl | rfl | rfl | rfl | rfl | rfl | rfl
    · refine Eq.trans ?_ (z_at (q := 0) rfl).symm; rfl
    · refine Eq.trans ?_ (z_at (q := 1) rfl).symm; rfl
    · refine Eq.trans ?_ (z_at (q := 2) rfl).symm; rfl
    · refine Eq.trans ?_ (z_at (q := 3) rfl).symm; rfl
    · refine Eq.trans ?_ (z_at (q := 4) rfl).symm; rfl
    · refine Eq.trans ?_ (z_at (q := 5) rfl).symm; rfl
    · refine Eq.trans ?_ (z_at (q := 6) rfl).symm; rfl
    · refine Eq.trans ?_ (z_at (q := 7) rfl).symm; rfl
    · refine Eq.trans ?_ (z_at (q := 8) rfl).symm; rfl
    · refine Eq.trans ?_ (z_at (q := 9) rfl).symm; rfl
    · refine Eq.trans ?_ (z_at (q := 10) rfl).symm; rfl
    · refine Eq.trans ?_ (z_at (q := 11) rfl).symm; rfl
    · refine Eq.trans ?_ (z_at (q := 12) rfl).symm; rfl
    · refine Eq.trans ?_ (z_at (q := 13) rfl).symm; rfl
    · refine Eq.trans ?_ (z_at (q := 14) rfl).symm; rfl
    · refine Eq.trans ?_ (z_at (q := 15) rfl).symm; rfl
    · refine Eq.trans ?_ (z_at (q := 16) rfl).symm; rfl
    · refine Eq.trans ?_ (z_at (q := 17) rfl).symm; rfl
    · refine Eq.trans ?_ (z_at (q := 18) rfl).symm; rfl
    · refine Eq.trans ?_ (z_at (q := 19) rfl).symm; rfl
    · refine Eq.trans ?_ (z_at (q := 20) rfl).symm; rfl
    · refine Eq.trans ?_ (z_at (q := 21) rfl).symm; rfl
    · refine Eq.trans ?_ (z_at (q := 22) rfl).symm; rfl
    · refine Eq.trans ?_ (z_at (q := 23) rfl).symm; rfl
    · refine Eq.trans ?_ (z_at (q := 24) rfl).symm; rfl
    · refine Eq.trans ?_ (z_at (q := 25) rfl).symm; rfl
    · refine Eq.trans ?_ (z_at (q := 26) rfl).symm; rfl
    · refine Eq.trans ?_ (z_at (q := 27) rfl).symm; rfl
    · refine Eq.trans ?_ (z_at (q := 28) rfl).symm; rfl
    · refine Eq.trans ?_ (z_at (q := 29) rfl).symm; rfl
    · refine Eq.trans ?_ (z_at (q := 30) rfl).symm; rfl
    · refine Eq.trans ?_ (z_at (q := 31) rfl).symm; rfl
    · refine Eq.trans ?_ (z_at (q := 32) rfl).symm; rfl
    · refine Eq.trans ?_ (z_at (q := 33) rfl).symm; rfl
    · refine Eq.trans ?_ (z_at (q := 34) rfl).symm; rfl
    · refine Eq.trans ?_ (z_at (q := 35) rfl).symm; rfl
    · refine Eq.trans ?_ (z_at (q := 36) rfl).symm; rfl
    · refine Eq.trans ?_ (z_at (q := 37) rfl).symm; rfl
    · refine Eq.trans ?_ (z_at (q := 38) rfl).symm; rfl
    · refine Eq.trans ?_ (z_at (q := 39) rfl).symm; rfl
    · refine Eq.trans ?_ (z_at (q := 40) rfl).symm; rfl
    · refine Eq.trans ?_ (z_at (q := 41) rfl).symm; rfl
    · refine Eq.trans ?_ (z_at (q := 42) rfl).symm; rfl
    · refine Eq.trans ?_ (z_at (q := 43) rfl).symm; rfl
    · refine Eq.trans ?_ (z_at (q := 44) rfl).symm; rfl
    · refine Eq.trans ?_ (z_at (q := 45) rfl).symm; rfl
    · refine Eq.trans ?_ (z_at (q := 46) rfl).symm; exact w_46
    · refine Eq.trans ?_ (z_at (q := 47) rfl).symm; rfl
    · refine Eq.trans ?_ (z_at (q := 48) rfl).symm; rfl
    · refine Eq.trans ?_ (z_at (q := 49) rfl).symm; rfl
    · refine Eq.trans ?_ (z_at (q := 50) rfl).symm; rfl
    · refine Eq.trans ?_ (z_at (q := 51) rfl).symm; rfl
    · refine Eq.trans ?_ (z_at (q := 52) rfl).symm; rfl
    · refine Eq.trans ?_ (z_at (q := 53) rfl).symm; rfl
    · refine Eq.trans ?_ (z_at (q := 54) rfl).symm; rfl
    · refine Eq.trans ?_ (z_at (q := 55) rfl).symm; rfl
    · refine Eq.trans ?_ (z_at (q := 56) rfl).symm; rfl
    · refine Eq.trans ?_ (z_at (q := 57) rfl).symm; rfl
    · refine Eq.trans ?_ (z_at (q := 58) rfl).symm; rfl
  · rw [List.getElem?_eq_none (show (W3 E q0 bB gG fF oO uB _ uG _ _ uF uO _ u gs ++ W4 E qM uM fM).length ≤ k from Nat.not_lt.mp hk), List.getElem?_eq_none (show (z_W (_, E.2.1, E.2.2.1, E.2.2.2, E.1) (D0 gs fM)).length ≤ k by unfold z_W; rw [List.length_mapIdx]; exact Nat.not_lt.mp hk)]
set_option maxRecDepth 20000 in
set_option maxHeartbeats 4000000 in
theorem whole_start {p : Program} {e : Env} {s : State} {m : MethodId} {below : List Frame} {meth : Method} {c : Code} (l : Launch) (hflags : l.flags = flags0) {b L : Nat} {xs : Nat → Int32} (hL : L ≤ 2048) (C0 : lw_At p s m meth c b L xs) : W p l e room_1 s m #[Value.ref b] below meth c s.heap [] 0 0 (lw_Z below #[Value.ref b] s) (entryFrame m ([Value.ref b] : List Value).toArray 4) := by
  obtain ⟨hx, hb, hr, hml, hown, hts, hX, hbl, hlocks, hgv⟩ := id C0
  obtain ⟨E, hK⟩ := lw_K hts
  have hz : ∀ w ∈ z_T, w.before #[Value.ref b] s = true := fun w hw => hts w (List.mem_filter.mp hw).1
  have hA : ∀ q : Nat, s.heap.size ≤ q → (fun q : Nat => s.heap.size ≤ q) q := fun _ h => h
  have hS : va_S (fun q : Nat => s.heap.size ≤ q) s.heap s.heap [] := va_S.rf
  have hP : va_P E.1 vwCl [] s.heap := fun k q h => by simp at h
  have hD : va_D (fun q : Nat => s.heap.size ≤ q) [] := ⟨fun i j p q h => by simp at h, fun k q h => by simp at h⟩
  have hl := lv_entry ([.ref b]) (n := 4) (Nat.le_of_ble_eq_true rfl)
  rw [lg_entry_eq]
  generalize (lg_sl ([.ref b]) ++ List.replicate (4 - (lg_sl ([.ref b])).length) Slot.unset).toArray = ls at hl ⊢
  have hl : lv_has ls 4 [(0, .ref b)] := hl
  have hb' : c.code = cL_law := hb
  refine lw_new (own := RL) hx hb' hown hz hK hP hD hS hA dL_law_0 nnRL_7 ⟨Nat.le_of_ble_eq_true rfl, Nat.le_of_ble_eq_true rfl⟩ (fun q0 H hP hD hS => ?_)
  refine lv_dup hx hb' dL_law_3 rfl ?_
  refine lw_init (own := RL) (RZ := nR3) (PZ := pX3 E q0) hx hb' hml hown hz hK hP hD hS hA hl dL_law_4 tX3_init niRL_9 rfl pnX3_init rfl ⟨Nat.le_of_ble_eq_true rfl, Nat.le_of_ble_eq_true rfl⟩ ⟨Nat.le_of_ble_eq_true rfl, Nat.le_of_ble_eq_true rfl⟩ (by simp [Value.category]) (by decide) (cX3 E q0) (fun w3 H locs hw3 hP hD hS => ?_)
  refine lv_astore_n (lv' := [(1, .ref q0), (0, .ref b)]) hx hb' dL_law_7 rfl hl (by decide) rfl (fun ls hl => ?_)
  refine lw_new (own := RL) hx hb' hown hz hK hP hD hS hA dL_law_8 nnRL_10 ⟨Nat.le_of_ble_eq_true rfl, Nat.le_of_ble_eq_true rfl⟩ (fun qM H hP hD hS => ?_)
  refine lv_dup hx hb' dL_law_11 rfl ?_
  refine lw_init (own := RL) (RZ := nR4) (PZ := pX4 E qM) hx hb' hml hown hz hK hP hD hS hA hl dL_law_12 tX4_init niRL_12 rfl pnX4_init rfl ⟨Nat.le_of_ble_eq_true rfl, Nat.le_of_ble_eq_true rfl⟩ ⟨Nat.le_of_ble_eq_true rfl, Nat.le_of_ble_eq_true rfl⟩ (by simp [Value.category]) (by decide) (cX4 E qM) (fun w4 H locs hw4 hP hD hS => ?_)
  refine lv_astore_n (lv' := [(2, .ref qM), (1, .ref q0), (0, .ref b)]) hx hb' dL_law_15 rfl hl (by decide) rfl (fun ls hl => ?_)
  refine lv_iconst (v := nI 0) hx hb' dL_law_16 (by decide) ?_
  refine lv_istore_n (lv' := [(3, .int (nI 0)), (2, .ref qM), (1, .ref q0), (0, .ref b)]) hx hb' dL_law_17 rfl hl (by decide) rfl (fun ls hl => ?_)
  obtain ⟨bB, gG, fF, oO, uB, rB, uG, rG, tG, uF, uO, rb, u, gs, rfl, hgs⟩ := hw3
  obtain ⟨uM, fM, rfl, hfM⟩ := hw4
  generalize had : n_ad b q0 bB gG fF oO qM uB rB uG rG tG uF uO rb u uM = ad
  have hW : W3 E q0 bB gG fF oO uB rB uG rG tG uF uO rb u gs ++ W4 E qM uM fM = z_W (ad, E.2.1, E.2.2.1, E.2.2.2, E.1) (D0 gs fM) := by
    rw [W3_c (rB' := fun i => ad (8 + i)) (rG' := fun i => ad (20 + i)) (tG' := fun i => ad (26 + i)) (rb' := fun i => ad (40 + i)) (fun i hi => by rw [← had]; rcases (show i = 0 ∨ i = 1 ∨ i = 2 ∨ i = 3 ∨ i = 4 ∨ i = 5 ∨ i = 6 ∨ i = 7 ∨ i = 8 ∨ i = 9 by omega) with rfl | rfl | rfl | rfl | rfl | rfl | rfl | rfl | rfl | rfl <;> rfl) (fun i hi => by rw [← had]; rcases (show i = 0 ∨ i = 1 ∨ i = 2 ∨ i = 3 ∨ i = 4 by omega) with rfl | rfl | rfl | rfl | rfl <;> rfl) (fun i hi => by rw [← had]; rcases (show i = 0 ∨ i = 1 ∨ i = 2 ∨ i = 3 ∨ i = 4 by omega) with rfl | rfl | rfl | rfl | rfl <;> rfl) (fun i hi => by rw [← had]; rcases (show i = 0 ∨ i = 1 ∨ i = 2 ∨ i = 3 ∨ i = 4 by omega) with rfl | rfl | rfl | rfl | rfl <;> rfl)]
    exact w_at had
  have hP0 : va_P E.1 vwCl (W3 E q0 bB gG fF oO uB rB uG rG tG uF uO rb u gs ++ W4 E qM uM fM) H := hP
  have hD0 : va_D (fun q : Nat => s.heap.size ≤ q) (W3 E q0 bB gG fF oO uB rB uG rG tG uF uO rb u gs ++ W4 E qM uM fM) := hD
  rw [hW] at hP0 hD0
  have hat : ∀ k, k < 59 → ∃ y, (z_W (ad, E.2.1, E.2.2.1, E.2.2.2, E.1) (D0 gs fM))[k]? = some (ad k, y) := fun k hk => by
    have hl9 : k < z_sh.length := hk
    exact ⟨_, z_at (G := (ad, E.2.1, E.2.2.1, E.2.2.2, E.1)) (D := D0 gs fM) (List.getElem?_eq_getElem hl9)⟩
  have hV : zV (ad, E.2.1, E.2.2.1, E.2.2.2, E.1) p s m meth c b L xs := by
    refine ⟨C0, ⟨hK.1, va_Nw.of rfl (hts _ lw_nest), fun i j hi hj hij => ?_⟩, fun k hk => ?_, by rw [← had]; rfl, hL⟩
    · obtain ⟨y1, h1⟩ := hat i hi
      obtain ⟨y2, h2⟩ := hat j hj
      exact hD0.1 i j _ _ h1 h2 hij
    · obtain ⟨y1, h1⟩ := hat k hk
      exact hD0.2 k _ h1
  refine W.widen (k := 59) (n := 2000) (Nat.le_of_ble_eq_true rfl) (Nat.le_of_ble_eq_true rfl) ?_
  refine law_loop hV hr hlocks (L + 1) 0 (D0 gs fM) (fun _ _ => 0) (Nat.zero_le _) (by omega) (D0_zI hgs hfM) H locs ls hP0 hS ?_
  refine ⟨lv_sub hl [3, 2, 1, 0] (by rw [← had]; rfl), fun q hq => ?_⟩
  rw [show z_ll (ad, E.2.1, E.2.2.1, E.2.2.2, E.1) (lwv 0) = [(0, .ref b), (1, .ref q0), (2, .ref qM), (3, .int (nI 0))] by rw [← had]; rfl] at hq
  simp only [List.mem_cons, List.not_mem_nil, or_false] at hq
  rcases hq with rfl | rfl | rfl | rfl <;> rfl
set_option maxHeartbeats 4000000 in
theorem lw_walk (l : Launch) (hflags : l.flags = flags0) (b : Addr) (xs : List Int32) : MetFree l x (headSpec (Jvm.Cond.code x code maxLocals ret :: tables_1) room_1) (lw_P b xs) (fun _ _ _ _ _ => True) lw_Q := by
  refine MetFree.of_bodyS (code := code) (maxLocals := maxLocals) (ret := ret) (by decide) ?_ ?_
  · intro args s m h hn
    obtain ⟨meth, c, h1, h2, h3, h4, h5, h6, -, -⟩ := Cond.code_spec hn (atoms_spec (ws := Jvm.Cond.code x code maxLocals ret :: tables_1) h _ List.mem_cons_self)
    exact ⟨meth, c, h1, h2, h3, h4, h5, h6⟩
  · intro p e s m args below meth c s₁ B hml0 hP _
    obtain ⟨rfl, hx, hbd, hgv⟩ := hP
    obtain ⟨scr, harrAt, hlist, hof, hsmall⟩ := hx
    obtain ⟨hcb, hkn, -, -⟩ := State.arrayAt?_spec harrAt
    have hown : s.vm.findClass R_law = some m.cls := findClass_of_methodNamed B.named
    have hts0 : ∀ c ∈ (Jvm.Cond.code x code maxLocals ret :: tables_1), c.before #[Value.ref b] s = true := atoms_spec (ws := Jvm.Cond.code x code maxLocals ret :: tables_1) B.pre
    have hts : ∀ w ∈ lw_tbl, w.before #[Value.ref b] s = true := k2_hts_sels lw_privs (fun w hw => hts0 w (List.mem_cons_of_mem _ hw)) lw_privs_ok
    have hml : c.maxLocals = 4 := B.maxLocals_eq (hts0 _ List.mem_cons_self)
    have X₀ : Stand p l e room_1 s m #[Value.ref b] below meth c s₁ [] 0 0 := Stand.of_body B
    have hh0 : s₁.heap = s.heap := by rw [B.state]; rfl
    have hsz : scr.slots.size = xs.length := by rw [← Array.length_toList, hlist, List.length_map]
    have hval : ∀ j : Nat, j < xs.length → scr.slots[j]? = some (.int (xs.getD j 0)) := fun j hj => by
      rw [← Array.getElem?_toList, hlist]
      simp [hj]
    have hbl : b < s.heap.size := (Array.getElem?_eq_some_iff.mp hcb).1
    have hX : va_X b xs.length (fun j => xs.getD j 0) s s.heap := ⟨scr, hcb, hof, hkn, hsz, hval⟩
    have K : W p l e room_1 s m #[Value.ref b] below meth c s₁.heap [] 0 0 (lw_Z below #[Value.ref b] s) (entryFrame m ([Value.ref b] : List Value).toArray 4) := by
      rw [hh0]
      exact whole_start l hflags hbd ⟨B.exec, B.bytes, B.returns, hml, hown, hts, hX, hbl, B.notSynchronized, hgv⟩
    obtain ⟨t, a1, o, b1, b2, b3⟩ := K s₁ rfl X₀
    exact ⟨t, o, a1, b1, b2, b3⟩
theorem lw_pre_spec {args : Array Value} {s : State} (h : (Jvm.Cond.and given_1 narrow_1).before args s = true) (hr : rest_1_c.before args s = true) : ∃ (b : Addr) (xs : List Int32), lw_P b xs args s := by
  have hs := flat_of_before _ h
  have hq := flat_of_before _ hr
  have hc : (Cond.count 1).before args s = true := hs _ (by decide +kernel)
  have harr : (Cond.arrayOf (.arg 0) .int).before args s = true := hs _ (by decide +kernel)
  have hle : (Cond.le (.length (.arg 0)) (.int 2048)).before args s = true := hs _ (by decide +kernel)
  have hlen : (Cond.isInt (.length (.arg 0))).before args s = true := hq _ (by decide +kernel)
  have hall : (Cond.all (.arg 0) (.isInt (.elem (.arg 0) (.index 0)))).before args s = true := hq _ (by decide +kernel)
  obtain ⟨b, xs, hb, hx⟩ := State.ints_of_pre rfl harr hlen hall
  have hsm : xs.length < 2 ^ 31 := hx.choose_spec.2.2.2
  have hev : (Term.length (.arg 0)).eval args s none [] s = some (.int xs.length.toInt32) := hx.length_eval hb
  have hv := Cond.le_ints hev (show (Term.int 2048).eval args s none [] s = some (.int 2048) from rfl)
  have hd : xs.length.toInt32 ≤ 2048 := by
    simpa [Cond.before, Cond.holds, hv] using hle
  have hN : xs.length ≤ 2048 := (Int32.ofNat_le_ofNat hsm (by decide)).mp (show Int32.ofNat xs.length ≤ Int32.ofNat 2048 from hd)
  exact ⟨b, xs, Cond.one_arg hc (show args[0]? = some (.ref b) from hb), hx, hN, h⟩
theorem lw_comes (l : Launch) (hflags : l.flags = flags0) : Comes l x (Jvm.Cond.code x code maxLocals ret :: tables_1) room_1 (fun tb e args s => Calls_1 tb e args s ∧ rest_1 tb e args s ∧ Pre_1 tb e args s)
    (fun _ _ args s o t => lw_Q args s o t) := by
  intro p e ha hc hk s m args below hf hfit hheap happ hpre
  obtain ⟨b, xs, hP⟩ := lw_pre_spec hpre.2.2 hpre.2.1
  obtain ⟨k, o, h1, h2, h3, hQ⟩ := lw_walk l hflags b xs p e ha hc hk s m args below hf ((Spec.applies_iff_loose hf).mp happ).1 hP trivial
  exact ⟨k, o, h1, h2, h3, hQ⟩
theorem lw_frame {s t : State} {o : Outcome} {args : Array Value} (h : Framed s o t [] 600000 7302250) :
    Framed s o t (fieldLocs frame_1_writes args s ++ arrayLocs frame_1_arrays args s ++ staticLocs frame_1_statics s) 600000 7302250 := h
theorem lw_limb (L : Cond) (hL : ∀ (args : Array Value) (s t : State), L.after args s (.returned (some (.int 1))) t = true) :
    ArmFor flags0 classFile x code maxLocals ret World_1 tables_1 room_1 Calls_1 rest_1 Pre_1
      (fun tb e a s o t => postC L tb e a s o t ∧ Framed s o t (fieldLocs frame_1_writes a s ++ arrayLocs frame_1_arrays a s ++ staticLocs frame_1_statics s) 600000 7302250) := by
  intro l hflags _ _ p e ha hc hk s m args below hf hfit hheap happ hpre
  obtain ⟨k, o, h1, h2, h3, rfl, hF⟩ := lw_comes l hflags p e ha hc hk s m args below hf hfit hheap happ hpre
  exact ⟨k, _, h1, h2, h3, hL args s _, lw_frame hF⟩
theorem i_vc : Claimed_1_1 ∧ Claimed_1_2 := ⟨lw_limb limb_1_1 (fun args s t => by simp [limb_1_1, Cond.after, Cond.holds, Cond.value]), lw_limb limb_1_2 (fun args s t => Cond.after_iff.mpr (by
  first | (rw [show limb_1_2 = Cond.eq .result (.int 1) from rfl, Cond.eq_ints (x := 1) (y := 1) rfl rfl]; simp; done) | (simp [limb_1_2, Cond.value, Term.eval]; done)))⟩
