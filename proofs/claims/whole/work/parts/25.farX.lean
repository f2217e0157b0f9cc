/-! FAR, the class -/
def zOff (r : Nat) (D E : zM) : Prop := ∀ q, q ≠ r → E q = D q
theorem zOff.rfl {r : Nat} {D : zM} : zOff r D D := fun _ _ => Eq.refl _
theorem zOff.trans {r : Nat} {D E F : zM} (h1 : zOff r D E) (h2 : zOff r E F) : zOff r D F := fun q hq => (h2 q hq).trans (h1 q hq)
theorem zOff.up {r : Nat} {D E : zM} (h : zOff r D E) (k : Nat) (v : Int32) : zOff r D (z_up E r k v) := fun q hq => (z_up_ne hq).trans (h q hq)
theorem uJ7_fill {D : zM} {r L : Nat} {v : Int32} (hr : z_sh[r]? = some (.inr (.inl (0, L)))) (hL : L < 2 ^ 31) : z_Cv mJ7_fill_53178 [.ref r, .int v] D (fun E => (∀ p, p < L → E r p = v) ∧ zOff r D E) := by
  refine bJ7_fill_53178_0 hr ?_
  have loop : ∀ (m p : Nat) (E : zM), p + m = L → (∀ q, q < p → E r q = v) → zOff r D E → z_Ok mJ7_fill_53178 5 [some (.ref r), some (.int v), some (.int (nI p)), some (.int (nI L))] [] E (z_pv (fun E => (∀ p, p < L → E r p = v) ∧ zOff r D E)) := by
    intro m
    induction m with
    | zero =>
      intro p E hp hE ho
      have e1 : (nI L ≤ nI p) = True := by rw [nI_leI (by omega) (by omega)]; simp; omega
      apply bJ7_fill_53178_5 hr <;> simp only [e1, not_true, false_imp_iff, true_imp_iff]
      exact ⟨fun q hq => hE q (by omega), ho⟩
    | succ m ih =>
      intro p E hp hE ho
      have e1 : (nI L ≤ nI p) = False := by rw [nI_leI (by omega) (by omega)]; simp; omega
      have e0 : (nI p).toNatClampNeg = p := nI_clamp (by omega)
      have ih' := fun E => ih (p + 1) E (by omega)
      rw [nI_succ] at ih'
      apply bJ7_fill_53178_5 hr <;> simp only [e1, e0, not_false_eq_true, false_imp_iff, true_imp_iff]
      · exact vp_in_nI (by omega) (by omega)
      · refine ih' _ (fun q hq => ?_) (ho.up _ _)
        by_cases e : q = p
        · rw [e, z_up_eq]
        · rw [z_up_k e]; exact hE q (by omega)
  exact loop L 0 D (by omega) (fun q hq => by omega) zOff.rfl
def fI (v : Nat) : Int32 := if v = 100000 then -9 else nI v
theorem fI_9 {v : Nat} (h : v ≤ 100000) : (fI v = -9) = (v = 100000) := by
  unfold fI
  by_cases e : v = 100000
  · simp [e]
  · rw [if_neg e]
    have := nI_ne9 (show v < 2 ^ 31 by omega)
    simp [this, e]
theorem fI_n {v : Nat} (h : v ≠ 100000) : fI v = nI v := by unfold fI; rw [if_neg h]
def RW (D : zM) (r : Nat) (f : Nat → Nat) : Prop := ∀ p, p < 10 → D r p = fI (f p)
def chg (a b l : Nat) (f : Nat → Nat) : Bool := decide (f b + l < f a)
theorem rl1_same {a b l : Nat} {f : Nat → Nat} (h : chg a b l f = false) : rl1 a b l f = f := by
  have h' : ¬ f b + l < f a := by simpa [chg] using h
  funext p
  unfold rl1
  split
  · rename_i e; subst e; omega
  · rfl
theorem uX2_shorten {D : zM} {r a b l t : Nat} {f : Nat → Nat} (hr : z_sh[r]? = some (.inr (.inl (0, 10)))) (hF : RW D r f) (hb : bdd f t) (ht : t < 1000) (ha : a < 10) (hb2 : b < 10) (hl : l ≤ 99) :
    z_Ci mX2_shorten [.ref r, .int (nI a), .int (nI b), .int (nI l)] D (fun v E => v = bI (chg a b l f) ∧ RW E r (rl1 a b l f) ∧ zOff r D E) := by
  have ea : (nI a).toNatClampNeg = a := nI_clamp (by omega)
  have eb : (nI b).toNatClampNeg = b := nI_clamp (by omega)
  have ba := hb a
  have bb := hb b
  have ia := fI_9 (hb.le (by omega) a)
  have ib := fI_9 (hb.le (by omega) b)
  have set : f b ≠ 100000 → f b + l < f a → RW (z_up D r a (fI (f b) + nI l)) r (rl1 a b l f) := by
    intro c1 c2 p hp
    by_cases e : p = a
    · subst e
      rw [z_up_eq, fI_n c1, nI_add]
      unfold rl1
      rw [if_pos rfl, show min (f p) (f b + l) = f b + l by omega, fI_n (by omega)]
    · rw [z_up_k e, hF p hp]
      unfold rl1
      rw [if_neg e]
  have stay : ¬ f b + l < f a → bI (chg a b l f) = 0 ∧ RW D r (rl1 a b l f) := by
    intro c
    have : chg a b l f = false := by simpa [chg] using c
    rw [this, rl1_same this]
    exact ⟨rfl, hF⟩
  apply bX2_shorten_0 hr <;> try simp only [ea, eb, hF a ha, hF b hb2, ia, ib]
  · exact vp_in_nI hb2 (by omega)
  · exact fun _ => vp_in_nI ha (by omega)
  · intro c
    obtain ⟨h1, h2⟩ := stay (by omega)
    exact ⟨h1.symm, h2, zOff.rfl⟩
  · intro c1 c2
    have c3 : f b + l < f a := by omega
    exact ⟨by simp [chg, c3, bI], set c1 c3, zOff.rfl.up _ _⟩
  · intro c1 c2 c3
    rw [fI_n c1, fI_n c2, nI_add, nI_ltI (by omega) (by omega)] at c3
    exact ⟨by simp [chg, c3, bI], set c1 c3, zOff.rfl.up _ _⟩
  · intro c1 c2 c3
    rw [fI_n c1, fI_n c2, nI_add, nI_ltI (by omega) (by omega)] at c3
    obtain ⟨h1, h2⟩ := stay c3
    exact ⟨h1.symm, h2, zOff.rfl⟩
/-- whether a round changes anything, as the class sees it -/
def flg (s : zA) : Nat → (Nat → Nat) → Bool
  | 0, _ => false
  | k + 1, f => flg s k f || (decide (s 4 k = 1) && (chg (s 1 k) (s 2 k) (s 3 k) (rndM s k f) || chg (s 2 k) (s 1 k) (s 3 k) (rl1 (s 1 k) (s 2 k) (s 3 k) (rndM s k f))))
theorem flg_no {s : zA} (hs : WF s) {f : Nat → Nat} : ∀ k, k ≤ s 0 0 → flg s k f = false → rndM s k f = f
  | 0, _, _ => rfl
  | k + 1, hk, h => by
    have h' : (flg s k f || (decide (s 4 k = 1) && (chg (s 1 k) (s 2 k) (s 3 k) (rndM s k f) || chg (s 2 k) (s 1 k) (s 3 k) (rl1 (s 1 k) (s 2 k) (s 3 k) (rndM s k f))))) = false := h
    rw [Bool.or_eq_false_iff] at h'
    have ih := flg_no hs k (by omega) h'.1
    have hlt := (hs.2.2.2.2.1 k (by omega)).1
    show relM s k (rndM s k f) = f
    rw [relM_x (by omega)]
    by_cases e : s 4 k = 1
    · rw [if_pos e]
      have h2 := h'.2
      rw [decide_eq_true e, Bool.true_and, Bool.or_eq_false_iff] at h2
      rw [rl1_same h2.2, rl1_same h2.1, ih]
    · rw [if_neg e, ih]
theorem farM_stop {s : zA} {h r : Nat} (hr : rndM s (s 0 0) (farM s h r) = farM s h r) : ∀ m, farM s h (r + m) = farM s h r
  | 0 => rfl
  | m + 1 => by
    show rndM s (s 0 0) (farM s h (r + m)) = farM s h r
    rw [farM_stop hr m, hr]
theorem bI_or (a b : Bool) : bI a ||| bI b = bI (a || b) := by cases a <;> cases b <;> decide
theorem uX2_measure {D : zM} {s : zA} (hX : IX D s) (hs : WF s) {r h : Nat} (hr : z_sh[r]? = some (.inr (.inl (0, 10)))) (hh : h < 10) (hr18 : 18 ≤ r) : z_Cv mX2_measure [.ref 1, .ref r, .int (nI h)] D (fun E => RW E r (farF s h) ∧ zOff r D E) := by
  have h14 := hs.1
  refine bX2_measure_0 hr (sX2_measure_3 (uJ7_fill hr (by omega)) (fun E0 hE0 => ?_))
  refine bX2_measure_6 hr (vp_in_nI hh (by omega)) ?_
  have eh : (nI h).toNatClampNeg = h := nI_clamp (by omega)
  rw [eh]
  have hini : RW (z_up E0 r h 0) r (iniF h) := by
    intro p hp
    unfold iniF
    by_cases e : p = h
    · rw [e, z_up_eq, if_pos rfl]; rfl
    · rw [z_up_k e, if_neg e, hE0.1 p hp]; rfl
  have rounds : ∀ (m q : Nat) (c : Bool) (o5 o6 o7 : Option Value) (E : zM), q + m = 9 → RW E r (farM s h q) → zOff r D E → (c = false → rndM s (s 0 0) (farM s h q) = farM s h q) → z_Ok mX2_measure 15 [some (.ref 1), some (.ref r), some (.int (nI h)), some (.int (bI c)), some (.int (nI (q + 1))), o5, o6, o7] [] E (z_pv (fun E => RW E r (farF s h) ∧ zOff r D E)) := by
    intro m
    induction m with
    | zero =>
      intro q c o5 o6 o7 E hq hF ho hc
      have e1 : (10 ≤ nI (q + 1)) = True := by rw [nI10 (q + 1) (by omega)]; simp; omega
      apply bX2_measure_15 hr <;> simp only [e1, not_true, false_imp_iff, true_imp_iff]
      exact ⟨by rw [show q = 9 by omega] at hF; exact hF, ho⟩
    | succ m ih =>
      intro q c o5 o6 o7 E hq hF ho hc
      have e1 : (10 ≤ nI (q + 1)) = False := by rw [nI10 (q + 1) (by omega)]; simp; omega
      have e2 : (bI c = 0) = (c = false) := propext (bI_0 c)
      apply bX2_measure_15 hr <;> simp only [e1, e2, not_false_eq_true, false_imp_iff, true_imp_iff]
      · intro z
        refine ⟨?_, ho⟩
        have := farM_stop (hc z) (m + 1)
        rw [show q + (m + 1) = 9 by omega] at this
        show RW E r (farM s h 9)
        rw [this]
        exact hF
      · intro _
        have walks : ∀ (j k : Nat) (o6 o7 : Option Value) (E : zM), k + j = s 0 0 → RW E r (rndM s k (farM s h q)) → zOff r D E → z_Ok mX2_measure 31 [some (.ref 1), some (.ref r), some (.int (nI h)), some (.int (bI (flg s k (farM s h q)))), some (.int (nI (q + 1))), some (.int (nI k)), o6, o7] [] E (z_pv (fun E => RW E r (farF s h) ∧ zOff r D E)) := by
          intro j
          induction j with
          | zero =>
            intro k o6 o7 E hk hF ho
            have e1 : (E 1 6 ≤ nI k) = True := by rw [ho 1 (by omega), hX.1, nI_leI (by omega) (by omega)]; simp; omega
            apply bX2_measure_31 hr <;> simp only [e1, not_true, false_imp_iff, true_imp_iff]
            rw [show k = s 0 0 by omega] at hF ⊢
            have := ih (q + 1) (flg s (s 0 0) (farM s h q)) (some (.int (nI (s 0 0)))) o6 o7 E (by omega) hF ho (fun z => by
              have e := flg_no hs (s 0 0) (Nat.le_refl _) z
              show rndM s (s 0 0) (rndM s (s 0 0) (farM s h q)) = rndM s (s 0 0) (farM s h q)
              rw [e, e])
            rw [nI_succ (q + 1)] at this
            exact this
          | succ j ihj =>
            intro k o6 o7 E hk hF ho
            have e1 : (E 1 6 ≤ nI k) = False := by rw [ho 1 (by omega), hX.1, nI_leI (by omega) (by omega)]; simp; omega
            have e0 : (nI k).toNatClampNeg = k := nI_clamp (by omega)
            obtain ⟨f1, f2, f3, f4⟩ := hX.2.2.2.2.1 k (by omega)
            rw [← ho 2 (by omega)] at f1
            rw [← ho 3 (by omega)] at f2
            rw [← ho 4 (by omega)] at f3
            rw [← ho 5 (by omega)] at f4
            obtain ⟨g1, g2, g3, g4, g5, -⟩ := hs.2.2.2.2.1 k (by omega)
            have i4 : (nI (s 4 k) = 0) = (s 4 k = 0) := by rw [n0]; exact propext (nI_eq (by omega) (by omega))
            have hb := rndM_bdd hs (farM_bdd hs h q (by omega)) (by omega) k (by omega)
            have ihj' := fun o6 o7 E => ihj (k + 1) o6 o7 E (by omega)
            rw [nI_succ k] at ihj'
            apply bX2_measure_31 hr <;> simp only [e1, e0, f1, f2, f3, f4, i4, not_false_eq_true, false_imp_iff, true_imp_iff]
            · exact vp_in_nI (by omega) (by omega)
            · intro z
              have e4 : ¬ s 4 k = 1 := by omega
              have eF : flg s (k + 1) (farM s h q) = flg s k (farM s h q) := by
                show (flg s k (farM s h q) || (decide (s 4 k = 1) && _)) = _
                simp [e4]
              have := ihj' o6 o7 E (by
                show RW E r (relM s k (rndM s k (farM s h q)))
                rw [relM, if_neg e4]; exact hF) ho
              rw [eF] at this
              exact this
            · intro z
              have e4 : s 4 k = 1 := by omega
              refine sX2_measure_81 (uX2_shorten hr hF hb (by omega) (by omega) g2 g4) (fun v E1 hE1 => ?_)
              obtain ⟨rfl, hF1, ho1⟩ := hE1
              refine bX2_measure_84 hr (vp_in_nI (by omega) (by omega)) ?_
              rw [e0, ho1 4 (by omega), f3, bI_or]
              refine sX2_measure_99 (uX2_shorten hr hF1 (rl1_bdd hb g4 (by omega)) (by omega) g2 (by omega) g4) (fun v E2 hE2 => bX2_measure_102 hr ?_)
              obtain ⟨rfl, hF2, ho2⟩ := hE2
              rw [bI_or]
              have eF : flg s (k + 1) (farM s h q) = (flg s k (farM s h q) || chg (s 1 k) (s 2 k) (s 3 k) (rndM s k (farM s h q)) || chg (s 2 k) (s 1 k) (s 3 k) (rl1 (s 1 k) (s 2 k) (s 3 k) (rndM s k (farM s h q)))) := by
                show (flg s k (farM s h q) || (decide (s 4 k = 1) && _)) = _
                rw [decide_eq_true e4, Bool.true_and, Bool.or_assoc]
              have := ihj' (some (.int (nI (s 1 k)))) (some (.int (nI (s 2 k)))) E2 (by
                show RW E2 r (relM s k (rndM s k (farM s h q)))
                rw [relM_x (by omega), if_pos e4]; exact hF2) ((ho.trans ho1).trans ho2)
              rw [eF] at this
              exact this
        exact walks (s 0 0) 0 o6 o7 E (by omega) hF ho
  exact rounds 9 0 true none none none _ (by omega) hini (hE0.2.up _ _) (fun z => by cases z)
theorem uX2_bestAt {D : zM} {s : zA} (hX : IX D s) (hs : WF s) {r t : Nat} {f : Nat → Nat} (hr : z_sh[r]? = some (.inr (.inl (0, 10)))) (hF : RW D r f) (hb : bdd f t) (ht : t < 1000) {p : Nat} (hp : p < 10) : z_Ci mX2_bestAt [.ref 1, .ref r, .int (nI p)] D (z_va (oI (bst s f p)) D) := by
  rw [← bsX_bst hs hb (by omega) p]
  refine bX2_bestAt_0 hr ?_
  have ep : (nI p).toNatClampNeg = p := nI_clamp (by omega)
  have hfp := hb p
  have loop : ∀ (m q : Nat) (o4 : Option Value), q + m = 10 → z_Ok mX2_bestAt 2 [some (.ref 1), some (.ref r), some (.int (nI p)), some (.int (nI q)), o4] [] D (z_pi (z_va (oI (z_fst (bsX s f p) m q)) D)) := by
    intro m
    induction m with
    | zero =>
      intro q o4 hq
      have e1 : (10 ≤ nI q) = True := by rw [nI10 q (by omega)]; simp; omega
      apply bX2_bestAt_2 hr <;> simp only [e1, not_true, false_imp_iff, true_imp_iff]
      exact ⟨rfl, rfl⟩
    | succ m ih =>
      intro q o4 hq
      have e1 : (10 ≤ nI q) = False := by rw [nI10 q (by omega)]; simp; omega
      have eq0 : (nI q).toNatClampNeg = q := nI_clamp (by omega)
      have hol := hX.2.2.2.2.2.2.2.2 p hp q (by omega)
      have hbq := hb q
      have h99 : ol s p q ≤ 99 := by
        cases ho : oa s p q with
        | false => rw [ol_no ho]; omega
        | true => exact (ol_pos hs ho).2
      have i0 : (nI (ol s p q) ≤ 0) = (oa s p q = false) := by
        rw [n0]
        refine propext ((nI_leI (by omega) (by omega)).trans ?_)
        constructor
        · intro z
          cases ho : oa s p q with
          | false => rfl
          | true => have := (ol_pos hs ho).1; omega
        · intro z; rw [ol_no z]; omega
      have i9 := fI_9 (hb.le (by omega) q)
      have ih' := fun o => ih (q + 1) o (by omega)
      rw [nI_succ] at ih'
      have skip : bsX s f p q = false → z_fst (bsX s f p) (m + 1) q = z_fst (bsX s f p) m (q + 1) := fun hh => if_neg (by rw [hh]; simp)
      apply bX2_bestAt_2 hr <;> simp only [e1, ep, eq0, hol, i0, hF q (by omega), hF p hp, i9, not_false_eq_true, false_imp_iff, true_imp_iff]
      · exact vp_in_nI hp (by omega)
      · exact vp_in_nI (by omega) (by omega)
      · intro c
        rw [skip (by unfold bsX; rw [c]; rfl)]
        exact ih' _
      · intro c1 c2
        rw [skip (by unfold bsX; simp [c2])]
        exact ih' _
      · intro c1 c2 c3
        rw [fI_n c2, nI_add] at c3
        rw [skip (by
          unfold bsX
          by_cases e : f p = 100000
          · simp [e]
          · rw [fI_n e, nI_eq (by omega) (by omega)] at c3
            simp [c3])]
        exact ih' _
      · intro c1 c2 c3
        rw [fI_n c2, nI_add] at c3
        refine ⟨rfl, ?_⟩
        have e : f p ≠ 100000 := by
          intro e
          rw [e] at c3
          exact nI_ne9 (show f q + ol s p q < 2 ^ 31 by omega) c3
        rw [fI_n e, nI_eq (by omega) (by omega)] at c3
        rw [show z_fst (bsX s f p) (m + 1) q = some q from if_pos (by
          unfold bsX
          have : oa s p q = true := by cases ho : oa s p q with
            | false => exact absurd ho c1
            | true => rfl
          simp [this, c2, e, c3])]
        rfl
  exact loop 10 0 none (by omega)
/-- what the guide holds of a name -/
def GD (D : zM) (s : zA) (n : Nat) : Prop := RW D (20 + n) (farF s (s 5 n)) ∧ (∀ p, p < 10 → D (26 + n) p = oI (bst s (farF s (s 5 n)) p)) ∧ D 31 n = nI (bm (fun p => (bst s (farF s (s 5 n)) p).isSome) 10)
def GO (n : Nat) (D E : zM) : Prop := (∀ q, q ≠ 20 + n → q ≠ 26 + n → q ≠ 31 → E q = D q) ∧ ∀ m, m ≠ n → E 31 m = D 31 m
theorem GO.trans {n : Nat} {D E F : zM} (h1 : GO n D E) (h2 : GO n E F) : GO n D F := ⟨fun q a b c => (h2.1 q a b c).trans (h1.1 q a b c), fun m hm => (h2.2 m hm).trans (h1.2 m hm)⟩
theorem GO.ix {n : Nat} {D E : zM} {s : zA} (hn : n < 5) (h : GO n D E) (hX : IX D s) : IX E s := hX.ag (ps := [20, 21, 22, 23, 24, 26, 27, 28, 29, 30, 31]) (ks := []) ⟨fun q _ h2 => by
  have h3 : q ≠ 20 + n ∧ q ≠ 26 + n ∧ q ≠ 31 := by
    refine ⟨fun e => h2 ?_, fun e => h2 ?_, fun e => h2 ?_⟩ <;> (subst e; simp; try omega)
  exact h.1 q h3.1 h3.2.1 h3.2.2, fun k _ => by rw [h.1 0 (by omega) (by omega) (by omega)]⟩ (by decide) (by decide)
theorem z_sh20 (n : Nat) (hn : n < 5) : z_sh[20 + n]? = some (.inr (.inl (0, 10))) := by
  have := z_r20 (vp_in_nI hn (by omega))
  rwa [nI_clamp (by omega)] at this
theorem z_sh26 (n : Nat) (hn : n < 5) : z_sh[26 + n]? = some (.inr (.inl (0, 10))) := by
  have := z_r26 (vp_in_nI hn (by omega))
  rwa [nI_clamp (by omega)] at this
theorem z_sh40 (n : Nat) (hn : n < 5) : z_sh[40 + n]? = some (.inr (.inl (0, 10))) := by
  have := z_r40 (vp_in_nI hn (by omega))
  rwa [nI_clamp (by omega)] at this
theorem oI_lt9 {o : Option Nat} (h : ∀ k, o = some k → k < 10) : (oI o = -9) = (o.isSome = false) := by
  rw [oI_ne9 (fun k hk => by have := h k hk; omega)]
  cases o <;> simp
set_option maxRecDepth 20000 in
theorem uX2_draw {D : zM} {s : zA} (hX : IX D s) (hs : WF s) {n : Nat} (hn : n < s 0 1) : z_Cv mX2_draw [.ref 18, .ref 1, .int (nI n), .int (nI (s 5 n))] D (fun E => GD E s n ∧ GO n D E) := by
  have h5 := hs.2.1
  have hh := hs.2.2.2.2.2.1 n hn
  have en : (nI n).toNatClampNeg = n := nI_clamp (by omega)
  have hr := z_sh20 n (by omega)
  have hf := farF_bdd hs (s 5 n)
  refine bX2_draw_0 (vp_in_nI (by omega) (by omega)) ?_
  rw [en]
  refine sX2_draw_8 (uX2_measure hX hs hr hh (by omega)) (fun E1 hE1 => bX2_draw_11 (vp_in_nI (by omega) (by omega)) ?_)
  rw [en]
  obtain ⟨hF1, ho1⟩ := hE1
  have loop : ∀ (m p : Nat) (E : zM), p + m = 10 → GO n D E → RW E (20 + n) (farF s (s 5 n)) → (∀ q, q < p → E (26 + n) q = oI (bst s (farF s (s 5 n)) q)) → E 31 n = nI (bm (fun p => (bst s (farF s (s 5 n)) p).isSome) p) → z_Ok mX2_draw 21 [some (.ref 18), some (.ref 1), some (.int (nI n)), some (.int (nI (s 5 n))), some (.int (nI p))] [] E (z_pv (fun E => GD E s n ∧ GO n D E)) := by
    intro m
    induction m with
    | zero =>
      intro p E hp hG hF hB hS
      have e1 : (10 ≤ nI p) = True := by rw [nI10 p (by omega)]; simp; omega
      apply bX2_draw_21 <;> simp only [e1, not_true, false_imp_iff, true_imp_iff]
      have : p = 10 := by omega
      subst this
      exact ⟨⟨hF, hB, hS⟩, hG⟩
    | succ m ih =>
      intro p E hp hG hF hB hS
      have e1 : (10 ≤ nI p) = False := by rw [nI10 p (by omega)]; simp; omega
      have e0 : (nI p).toNatClampNeg = p := nI_clamp (by omega)
      have hXE := hG.ix (by omega) hX
      have ih' := fun E => ih (p + 1) E (by omega)
      rw [nI_succ] at ih'
      apply bX2_draw_21 <;> simp only [e1, en, not_false_eq_true, false_imp_iff, true_imp_iff]
      · exact vp_in_nI (by omega) (by omega)
      · refine sX2_draw_45 (uX2_bestAt hXE hs hr hF hf (by omega) (show p < 10 by omega)) (fun v E2 hE2 => ?_)
        obtain ⟨rfl, rfl⟩ := hE2
        have hbs : ∀ k, bst s (farF s (s 5 n)) p = some k → k < 10 := fun k hk => (bst_spec hk).1
        have i9 := oI_lt9 hbs
        have hG2 : GO n D (z_up E2 (26 + n) p (oI (bst s (farF s (s 5 n)) p))) := hG.trans ⟨fun q a b c => z_up_ne b, fun m _ => by rw [z_up_ne (by omega)]⟩
        have hF2 : RW (z_up E2 (26 + n) p (oI (bst s (farF s (s 5 n)) p))) (20 + n) (farF s (s 5 n)) := fun q hq => by rw [z_up_ne (by omega)]; exact hF q hq
        have hB2 : ∀ q, q < p + 1 → z_up E2 (26 + n) p (oI (bst s (farF s (s 5 n)) p)) (26 + n) q = oI (bst s (farF s (s 5 n)) q) := fun q hq => by
          by_cases e : q = p
          · rw [e, z_up_eq]
          · rw [z_up_k e]; exact hB q (by omega)
        have e31 : z_up E2 (26 + n) p (oI (bst s (farF s (s 5 n)) p)) 31 = E2 31 := z_up_ne (by omega)
        apply bX2_draw_48 (z_sh26 n (by omega)) <;> try simp only [e0, en, z_up_eq, e31, hS, i9, nb_sh1 p (by omega), nb_or]
        · exact vp_in_nI (by omega) (by omega)
        · exact vp_in_nI (by omega) (by omega)
        · exact vp_in_nI (by omega) (by omega)
        · intro c
          refine ih' _ hG2 hF2 hB2 ?_
          rw [e31, hS, bm_no c]
        · intro c
          have c' : (bst s (farF s (s 5 n)) p).isSome = true := by
            cases h9 : (bst s (farF s (s 5 n)) p).isSome with
            | true => rfl
            | false => exact absurd h9 c
          rw [bm_yes (f := fun p => (bst s (farF s (s 5 n)) p).isSome) c']
          refine ih' _ (hG2.trans ⟨fun q a b c => z_up_ne c, fun m hm => z_up_k hm⟩) (fun q hq => by rw [z_up_ne (by omega)]; exact hF2 q hq) (fun q hq => by rw [z_up_ne (by omega)]; exact hB2 q hq) (z_up_eq _ _ _ _)
  refine loop 10 0 _ (by omega) ⟨fun q a b c => by rw [z_up_ne c]; exact ho1 q a, fun m hm => by rw [z_up_k hm]; exact congrFun (ho1 31 (by omega)) m⟩ (fun q hq => by rw [z_up_ne (by omega)]; exact hF1 q hq) (fun q hq => by omega) ?_
  rw [z_up_eq]
  rfl
