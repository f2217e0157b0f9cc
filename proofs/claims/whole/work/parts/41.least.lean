/-! the fewest places: the class draws the choices on the ways by best -/
theorem bm_or2 (f g : Nat → Bool) (n : Nat) : bm f n ||| bm g n = bm (fun q => f q || g q) n := by
  apply Nat.eq_of_testBit_eq
  intro i
  rw [Nat.testBit_or, bm_bit, bm_bit, bm_bit]
  by_cases h : i < n
  · simp [h]
  · simp [h]
theorem bm_false {f : Nat → Bool} {n : Nat} (h : ∀ q, q < n → f q = false) : bm f n = 0 := bm_none.mpr (z_fst_no (fun i _ hi => h i (by omega)))
set_option maxRecDepth 20000 in
theorem uX3_choicesFrom {D : zM} {s : zA} (hX : IX D s) (hs : WF s) {n p0 : Nat} (hn : n < 5) (hp0 : p0 < 10) (hG : GD D s n) : z_Ci mX3_choicesFrom [.ref 0, .int (nI p0), .int (nI n)] D (z_va (nI (bm (chs s (fN s n) 10 p0 none) 10)) D) := by
  have en0 : (nI n).toNatClampNeg = n := nI_clamp (by omega)
  obtain ⟨g1, g2, g3⟩ := hG
  refine bX3_choicesFrom_0 ?_
  have loop : ∀ (m t p : Nat) (prev : Option Nat) (S : Nat → Bool), t + m = 10 → p < 10 → (∀ q, prev = some q → q < 10) → z_Ok mX3_choicesFrom 11 [some (.ref 0), some (.int (nI p0)), some (.int (nI n)), some (.int (nI (bm S 10))), some (.int (bkI prev)), some (.int (nI p)), some (.int (nI t))] [] D (z_pi (z_va (nI (bm (fun x => S x || chs s (fN s n) m p prev x) 10)) D)) := by
    intro m
    induction m with
    | zero =>
      intro t p prev S ht hp hpv
      have e1 : (10 ≤ nI t) = True := by rw [nI10 t (by omega)]; simp; omega
      apply bX3_choicesFrom_11 <;> simp only [e1, not_true, false_imp_iff, true_imp_iff]
      refine ⟨rfl, congrArg nI (bm_congr (fun q _ => ?_))⟩
      simp [chs]
    | succ m ih =>
      intro t p prev S ht hp hpv
      have e1 : (10 ≤ nI t) = False := by rw [nI10 t (by omega)]; simp; omega
      have ep : (nI p).toNatClampNeg = p := nI_clamp (by omega)
      have ih' := fun q hq => ih (t + 1) q (some p) (S := S) (by omega) hq (fun r hr => by cases hr; exact hp)
      have ih2 := fun q hq => ih (t + 1) q (some p) (S := fun x => if x = p then true else S x) (by omega) hq (fun r hr => by cases hr; exact hp)
      rw [nI_succ t] at ih' ih2
      have hbm := bm_lt (nx s p prev) 10
      have hct := ct_le (nx s p prev) 10
      have e6 : z_bc (D 6 p &&& (bkI prev ^^^ -1)) = nI (ct (nx s p prev) 10) := by
        rw [hX.2.2.2.2.2.2.2.1 p hp, bk_andn hpv, z_bc_all _ hbm, ct_bm]
      have i6 : (nI (ct (nx s p prev) 10) ≤ 1) = (ct (nx s p prev) 10 ≤ 1) := by rw [n1]; exact propext (nI_leI (by omega) (by omega))
      have e26 : D (26 + n) p = oI (bst s (fN s n) p) := g2 p hp
      have ib : (oI (bst s (fN s n) p) = -9) = ((bst s (fN s n) p).isSome = false) := oI_lt9 (fun k hk => (bst_spec hk).1)
      apply bX3_choicesFrom_11 <;> simp only [e1, ep, en0, e26, ib, e6, i6, nb_sh1 p hp, nb_or, bm_or S hp, not_false_eq_true, false_imp_iff, true_imp_iff]
      · exact vp_in_nI (by omega) (by omega)
      · exact vp_in_nI hp (by omega)
      · intro w
        have hb : bst s (fN s n) p = none := by
          cases h9 : bst s (fN s n) p with
          | none => rfl
          | some _ => rw [h9] at w; cases w
        refine ⟨rfl, congrArg nI (bm_congr (fun q _ => ?_))⟩
        rw [chs_none hb, Bool.or_false]
      · intro w1 w2
        obtain ⟨q, hb⟩ : ∃ q, bst s (fN s n) p = some q := by
          cases h9 : bst s (fN s n) p with
          | none => rw [h9] at w1; exact absurd rfl w1
          | some q => exact ⟨q, rfl⟩
        rw [hb]
        have := ih' q (bst_spec hb).1
        rw [show (fun x => S x || chs s (fN s n) m q (some p) x) = (fun x => S x || chs s (fN s n) (m + 1) p prev x) from funext (fun x => by rw [chs_some hb, show decide (1 < ct (nx s p prev) 10) = false from decide_eq_false (by omega), Bool.and_false, Bool.false_or])] at this
        exact this
      · intro w1 w2
        obtain ⟨q, hb⟩ : ∃ q, bst s (fN s n) p = some q := by
          cases h9 : bst s (fN s n) p with
          | none => rw [h9] at w1; exact absurd rfl w1
          | some q => exact ⟨q, rfl⟩
        rw [hb]
        have := ih2 q (bst_spec hb).1
        rw [show (fun x => (if x = p then true else S x) || chs s (fN s n) m q (some p) x) = (fun x => S x || chs s (fN s n) (m + 1) p prev x) from funext (fun x => by
          rw [chs_some hb, show decide (1 < ct (nx s p prev) 10) = true from decide_eq_true (by omega), Bool.and_true]
          by_cases e : x = p
          · simp [e]
          · simp [e])] at this
        exact this
  have := loop 10 0 p0 none (fun _ => false) (by omega) hp0 (fun q hq => by cases hq)
  rw [show (fun x => false || chs s (fN s n) 10 p0 none x) = chs s (fN s n) 10 p0 none from funext (fun x => Bool.false_or _), bm_false (f := fun _ => false) (fun _ _ => rfl)] at this
  exact this
theorem uX3_choicesOnBestWays {D : zM} {s : zA} (hX : IX D s) (hs : WF s) {n : Nat} (hn : n < 5) (hG : GD D s n) : z_Ci mX3_choicesOnBestWays [.ref 0, .int (nI n)] D (z_va (nI (bm (CH s n) 10)) D) := by
  refine bX3_choicesOnBestWays_0 ?_
  have loop : ∀ (m p : Nat), p + m = 10 → z_Ok mX3_choicesOnBestWays 4 [some (.ref 0), some (.int (nI n)), some (.int (nI (bm (CHk s n p) 10))), some (.int (nI p))] [] D (z_pi (z_va (nI (bm (CH s n) 10)) D)) := by
    intro m
    induction m with
    | zero =>
      intro p hp
      have e1 : (10 ≤ nI p) = True := by rw [nI10 p (by omega)]; simp; omega
      apply bX3_choicesOnBestWays_4 <;> simp only [e1, not_true, false_imp_iff, true_imp_iff]
      exact ⟨rfl, by rw [show p = 10 by omega]; rfl⟩
    | succ m ih =>
      intro p hp
      have hp10 : p < 10 := by omega
      have e1 : (10 ≤ nI p) = False := by rw [nI10 p (by omega)]; simp; omega
      have iz := zb_en hs hX.2.2.1 hp10
      have ih' := ih (p + 1) (by omega)
      rw [nI_succ p] at ih'
      apply bX3_choicesOnBestWays_4 <;> simp only [e1, iz, not_false_eq_true, false_imp_iff, true_imp_iff]
      · intro w
        refine sX3_choicesOnBestWays_25 (uX3_choicesFrom hX hs hn hp10 hG) (fun r F hF => ?_)
        obtain ⟨rfl, rfl⟩ := hF
        refine bX3_choicesOnBestWays_28 ?_
        rw [nb_or, bm_or2]
        rw [show CHk s n (p + 1) = (fun q => CHk s n p q || chs s (fN s n) 10 p none q) from funext (fun x => by
          show (CHk s n p x || (en s p && chs s (fN s n) 10 p none x)) = _
          rw [w, Bool.true_and])] at ih'
        exact ih'
      · intro w
        rw [show CHk s n (p + 1) = CHk s n p from funext (fun x => by
          show (CHk s n p x || (en s p && chs s (fN s n) 10 p none x)) = _
          rw [show en s p = false by simpa using w, Bool.false_and, Bool.or_false])] at ih'
        exact ih'
  have := loop 10 0 (by omega)
  rw [show bm (CHk s n 0) 10 = 0 from bm_false (fun _ _ => rfl)] at this
  exact this
/-- the choices of some names, and whether a set's places that have a best lead to each of them -/
def KU (s : zA) (a : Nat) : Nat → Nat → Bool
  | 0, _ => false
  | j + 1, x => KU s a j x || CH s (a + j) x
def PL (s : zA) (a : Nat) : Nat → Nat → Bool
  | 0, _ => true
  | j + 1, c => PL s a j c && LD s (a + j) (c &&& HB s (a + j))
theorem KU_iff {s : zA} {a x : Nat} : ∀ {j : Nat}, KU s a j x = true ↔ ∃ i, i < j ∧ CH s (a + i) x = true
  | 0 => by simp [KU]
  | j + 1 => by
    have ih := KU_iff (s := s) (a := a) (x := x) (j := j)
    show (KU s a j x || CH s (a + j) x) = true ↔ _
    rw [Bool.or_eq_true, ih]
    constructor
    · rintro (⟨i, h1, h2⟩ | h)
      · exact ⟨i, by omega, h2⟩
      · exact ⟨j, by omega, h⟩
    · rintro ⟨i, h1, h2⟩
      by_cases e : i = j
      · subst e; exact Or.inr h2
      · exact Or.inl ⟨i, by omega, h2⟩
theorem PL_iff {s : zA} {a c : Nat} : ∀ {j : Nat}, PL s a j c = true ↔ ∀ i, i < j → LD s (a + i) (c &&& HB s (a + i)) = true
  | 0 => by simp [PL]
  | j + 1 => by
    have ih := PL_iff (s := s) (a := a) (c := c) (j := j)
    show (PL s a j c && LD s (a + j) (c &&& HB s (a + j))) = true ↔ _
    rw [Bool.and_eq_true, ih]
    constructor
    · rintro ⟨h1, h2⟩ i hi
      by_cases e : i = j
      · subst e; exact h2
      · exact h1 i (by omega)
    · intro h
      exact ⟨fun i hi => h i (by omega), h j (by omega)⟩
theorem PL_stop {s : zA} {a c i : Nat} (h : PL s a i c = false) : ∀ m, PL s a (i + m) c = false
  | 0 => h
  | m + 1 => by
    show (PL s a (i + m) c && _) = false
    rw [PL_stop h m]
    rfl
def lsO (s : zA) (a j : Nat) : Option Nat := if PL s a j (bm (KU s a j) 10) = true then some (bm (KU s a j) 10) else none
theorem and_1024 {a b : Nat} (h : b < 1024) : a &&& b < 1024 := Nat.lt_of_le_of_lt Nat.and_le_right h
theorem sub_and {s : zA} {n c : Nat} : sub s n (c &&& HB s n) = true := by
  rw [sub_iff (and_1024 (HB_lt s n))]
  intro q hq
  rw [Nat.testBit_and, Bool.and_eq_true] at hq
  have h2 := hq.2
  unfold HB at h2
  rw [bm_bit, Bool.and_eq_true] at h2
  exact h2.2
def WP : List Nat := GP ++ TP
theorem GD.keep {D E : zM} {s : zA} {n : Nat} (h : GD D s n) (h1 : E (20 + n) = D (20 + n)) (h2 : E (26 + n) = D (26 + n)) (h3 : E 31 n = D 31 n) : GD E s n :=
  ⟨fun p hp => by rw [h1]; exact h.1 p hp, fun p hp => by rw [h2]; exact h.2.1 p hp, by rw [h3]; exact h.2.2⟩
set_option maxRecDepth 20000 in
theorem uX3_leastSet {D : zM} {s : zA} (hX : IX D s) (hs : WF s) {a j : Nat} (ha : a + j ≤ s 0 1) : z_Ci mX3_leastSet [.ref 0, .int (nI a), .int (nI (a + j))] D (fun r E => r = oI (lsO s a j) ∧ z_ag 0 WP [] D E) := by
  have h5 := hs.2.1
  have hK := bm_lt (KU s a j) 10
  refine bX3_leastSet_0 ?_
  have ix : ∀ {E : zM}, z_ag 0 WP [] D E → IX E s := fun hag => hX.ag hag (by decide) (by decide)
  have two : ∀ (m i : Nat) (E : zM), i + m = j → PL s a i (bm (KU s a j) 10) = true → (∀ t, t < j → GD E s (a + t)) → z_ag 0 WP [] D E → z_Ok mX3_leastSet 49 [some (.ref 0), some (.int (nI a)), some (.int (nI (a + j))), some (.int (nI (bm (KU s a j) 10))), some (.int (nI (a + i)))] [] E (z_pi (fun r E => r = oI (lsO s a j) ∧ z_ag 0 WP [] D E)) := by
    intro m
    induction m with
    | zero =>
      intro i E hi hP hG hag
      have e1 : (nI (a + j) ≤ nI (a + i)) = True := by rw [nI_leI (by omega) (by omega)]; simp; omega
      apply bX3_leastSet_49 <;> simp only [e1, not_true, false_imp_iff, true_imp_iff]
      refine ⟨?_, hag⟩
      rw [show i = j by omega] at hP
      rw [lsO, if_pos hP]
      rfl
    | succ m ih =>
      intro i E hi hP hG hag
      have e1 : (nI (a + j) ≤ nI (a + i)) = False := by rw [nI_leI (by omega) (by omega)]; simp; omega
      have e0 : (nI (a + i)).toNatClampNeg = a + i := nI_clamp (by omega)
      have hXE := ix hag
      have hGi := hG i (by omega)
      have e31 : E 31 (a + i) = nI (HB s (a + i)) := hGi.2.2
      have ih' := fun E => ih (i + 1) E (by omega)
      rw [show a + (i + 1) = a + i + 1 from rfl, nI_succ (a + i)] at ih'
      apply bX3_leastSet_49 <;> simp only [e1, e0, e31, nb_and, not_false_eq_true, false_imp_iff, true_imp_iff]
      · exact vp_in_nI (by omega) (by omega)
      refine sX3_leastSet_70 (uX3_wouldLead hXE hs (show a + i < s 0 1 by omega) (and_1024 (HB_lt s (a + i))) hGi) (fun r F hF => ?_)
      obtain ⟨rfl, hagF⟩ := hF
      rw [sub_and, Bool.true_and]
      have hag2 := hag.trans (hagF.mono (ps' := WP) (ks' := []) (by decide) (by decide))
      apply bX3_leastSet_73 <;> simp only [bI_0]
      · intro w
        have w' : LD s (a + i) (bm (KU s a j) 10 &&& HB s (a + i)) = true := by simpa using w
        refine ih' F ?_ (fun t ht => (hG t ht).keep (hagF.1 _ (by omega) (by simp [TP]; omega)) (hagF.1 _ (by omega) (by simp [TP]; omega)) (by rw [hagF.1 31 (by omega) (by decide)])) hag2
        show (PL s a i (bm (KU s a j) 10) && LD s (a + i) (bm (KU s a j) 10 &&& HB s (a + i))) = true
        rw [hP, w']
        rfl
      · intro w
        refine ⟨?_, hag2⟩
        have hst : PL s a (i + 1) (bm (KU s a j) 10) = false := by
          show (PL s a i (bm (KU s a j) 10) && LD s (a + i) (bm (KU s a j) 10 &&& HB s (a + i))) = false
          rw [w, Bool.and_false]
        have := PL_stop hst m
        rw [show i + 1 + m = j by omega] at this
        rw [lsO, this]
        rfl
  have one : ∀ (m i : Nat) (E : zM), i + m = j → (∀ t, t < i → GD E s (a + t)) → z_ag 0 WP [] D E → z_Ok mX3_leastSet 5 [some (.ref 0), some (.int (nI a)), some (.int (nI (a + j))), some (.int (nI (bm (KU s a i) 10))), some (.int (nI (a + i)))] [] E (z_pi (fun r E => r = oI (lsO s a j) ∧ z_ag 0 WP [] D E)) := by
    intro m
    induction m with
    | zero =>
      intro i E hi hG hag
      have e1 : (nI (a + j) ≤ nI (a + i)) = True := by rw [nI_leI (by omega) (by omega)]; simp; omega
      apply bX3_leastSet_5 <;> simp only [e1, not_true, false_imp_iff, true_imp_iff]
      have hij : i = j := by omega
      rw [hij] at hG ⊢
      exact two j 0 E (by omega) rfl hG hag
    | succ m ih =>
      intro i E hi hG hag
      have e1 : (nI (a + j) ≤ nI (a + i)) = False := by rw [nI_leI (by omega) (by omega)]; simp; omega
      have e0 : (nI (a + i)).toNatClampNeg = a + i := nI_clamp (by omega)
      have hXE := ix hag
      have hn : a + i < s 0 1 := by omega
      have ih' := fun E => ih (i + 1) E (by omega)
      rw [show a + (i + 1) = a + i + 1 from rfl, nI_succ (a + i)] at ih'
      apply bX3_leastSet_5 <;> simp only [e1, e0, hXE.2.2.2.2.2.1 (a + i) hn, not_false_eq_true, false_imp_iff, true_imp_iff]
      · exact vp_in_nI (by omega) (by omega)
      refine sX3_leastSet_28 (uX2_draw hXE hs hn) (fun F hF => bX3_leastSet_31 ?_)
      obtain ⟨hGD, hGO⟩ := hF
      have hag2 := hag.trans ((hGO.ag (by omega)).mono (ps' := WP) (ks' := []) (by decide) (by decide))
      refine sX3_leastSet_35 (uX3_choicesOnBestWays (ix hag2) hs (show a + i < 5 by omega) hGD) (fun r K hK => ?_)
      obtain ⟨rfl, rfl⟩ := hK
      refine bX3_leastSet_38 ?_
      rw [nb_or, bm_or2]
      refine ih' K (fun t ht => ?_) hag2
      by_cases e : t = i
      · subst e; exact hGD
      · exact (hG t (by omega)).keep (hGO.1 _ (by omega) (by omega) (by omega)) (hGO.1 _ (by omega) (by omega) (by omega)) (hGO.2 _ (by omega))
  have := one j 0 D (by omega) (fun t ht => by omega) z_ag.rfl
  rw [show bm (KU s a 0) 10 = 0 from bm_false (fun _ _ => rfl)] at this
  exact this
