/-! idle -/
theorem fol_lt {s : zA} (hs : WF s) {ar : Nat → Option Nat} {h : Nat} : ∀ (n p : Nat) (prev : Option Nat) (V : Nat → Nat → Bool), ∀ q ∈ (fol s ar h n p prev V).2.1, q < 10 := by
  intro n
  induction n with
  | zero => intro p prev V q hq; simp [fol] at hq
  | succ n ih =>
    intro p prev V t ht
    by_cases hp : p = h
    · rw [fol_home hp] at ht; simp at ht
    · cases hn : nxt s ar p prev with
      | inl e => rw [fol_end hp hn] at ht; simp at ht
      | inr q =>
        have hq := (oa_lt hs (nxt_go hn)).2.1
        cases hv : V p q with
        | true =>
          rw [fol_again hp hn hv] at ht
          have : t = q := by simpa using ht
          omega
        | false =>
          rw [fol_on hp hn hv] at ht
          rcases List.mem_cons.mp ht with e | e
          · omega
          · exact ih q (some p) (vup V p q) t e
theorem folR_at {s : zA} (hs : WF s) {ar : Nat → Option Nat} {h p : Nat} (hp : p < 10) (i : Nat) : (p :: (folR s ar h p).2.1).getD i 0 < 10 := by
  rw [List.getD_eq_getElem?_getD]
  cases hx : (p :: (folR s ar h p).2.1)[i]? with
  | none => simp
  | some x =>
    rcases List.mem_cons.mp (List.mem_of_getElem? hx) with e | e
    · subst e; exact hp
    · exact fol_lt hs 29 p none _ x e
theorem list_eq {l m : List Nat} (p : Nat) (hl : l.length = m.length) (h : ∀ i, i ≤ l.length → (p :: l).getD i 0 = (p :: m).getD i 0) : l = m := by
  apply List.ext_getElem hl
  intro i h1 h2
  have := h (i + 1) (by omega)
  simpa [List.getD_eq_getElem?_getD, h1, h2] using this
/-- two ways alike, as numbers in two rows tell it -/
theorem same_iff {s : zA} (hs : WF s) {ar br : Nat → Option Nat} {h p : Nat} (hp : p < 10) {f g : Nat → Int32} (hf : ∀ i, i ≤ (folR s ar h p).2.1.length → f i = nI ((p :: (folR s ar h p).2.1).getD i 0)) (hg : ∀ i, i ≤ (folR s br h p).2.1.length → g i = nI ((p :: (folR s br h p).2.1).getD i 0)) (hl : (folR s ar h p).2.1.length = (folR s br h p).2.1.length) :
    (∀ i, i ≤ (folR s ar h p).2.1.length → f i = g i) ↔ (folR s ar h p).2.1 = (folR s br h p).2.1 := by
  constructor
  · intro hh
    refine list_eq p hl (fun i hi => ?_)
    have h1 := hh i hi
    rw [hf i hi, hg i (by omega)] at h1
    have a1 := folR_at hs (ar := ar) (h := h) hp i
    have a2 := folR_at hs (ar := br) (h := h) hp i
    exact (nI_eq (by omega) (by omega)).mp h1
  · intro e i hi
    rw [hf i hi, hg i (by omega), e]
theorem uX4_keeps {D : zM} {a : Nat} (h14 : D 46 14 = nI a) (ha : a ≤ 29) : z_Cv mX4_keeps [.ref 46] D (fun E => E 46 17 = nI a ∧ E 46 18 = D 46 13 ∧ (∀ i, i ≤ a → E 57 i = D 56 i) ∧ z_ag 46 [57] [17, 18] D E) := by
  refine bX4_keeps_0 ?_
  have loop : ∀ (m x : Nat) (E : zM), x + m = a + 1 → E 46 17 = nI a → E 46 18 = D 46 13 → (∀ i, i < x → E 57 i = D 56 i) → z_ag 46 [57] [17, 18] D E → z_Ok mX4_keeps 18 [some (.ref 46), some (.int (nI x))] [] E (z_pv (fun E => E 46 17 = nI a ∧ E 46 18 = D 46 13 ∧ (∀ i, i ≤ a → E 57 i = D 56 i) ∧ z_ag 46 [57] [17, 18] D E)) := by
    intro m
    induction m with
    | zero =>
      intro x E hx h17 h18 hE hag
      have e1 : (E 46 14 < nI x) = True := by rw [hag.2 14 (by decide), h14, nI_ltI (by omega) (by omega)]; simp; omega
      apply bX4_keeps_18 <;> simp only [e1, not_true, false_imp_iff, true_imp_iff]
      exact ⟨h17, h18, fun i hi => hE i (by omega), hag⟩
    | succ m ih =>
      intro x E hx h17 h18 hE hag
      have e1 : (E 46 14 < nI x) = False := by rw [hag.2 14 (by decide), h14, nI_ltI (by omega) (by omega)]; simp; omega
      have e0 : (nI x).toNatClampNeg = x := nI_clamp (by omega)
      have ih' := fun E => ih (x + 1) E (by omega)
      rw [nI_succ] at ih'
      apply bX4_keeps_18 <;> simp only [e1, e0, not_false_eq_true, false_imp_iff, true_imp_iff]
      · exact vp_in_nI (by omega) (by omega)
      · refine ih' _ (by rw [z_up_ne (by omega)]; exact h17) (by rw [z_up_ne (by omega)]; exact h18) (fun i hi => ?_) (hag.up _ _ (by decide) (by decide))
        by_cases e : i = x
        · rw [e, z_up_eq, hag.1 56 (by omega) (by decide)]
        · rw [z_up_k e]; exact hE i (by omega)
  exact loop (a + 1) 0 _ (by omega) (by rw [z_up_k (by omega), z_up_eq]; exact h14) (by rw [z_up_eq]) (fun i hi => by omega) ((z_ag.rfl.fld _ (by decide)).fld _ (by decide))
theorem nar01 (x : Int32) (h : x = 0 ∨ x = 1) : narrow .boolean (.int x) = .int x := by rcases h with rfl | rfl <;> rfl
theorem uX4_isAsKept {D : zM} {a : Nat} (h14 : D 46 14 = nI a) (ha : a ≤ 29) : z_Ci mX4_isAsKept [.ref 46] D (z_bo (D 46 14 = D 46 17 ∧ D 46 13 = D 46 18 ∧ ∀ i, i ≤ a → D 56 i = D 57 i) D) := by
  have loop : ∀ (m x : Nat), x + m = a + 1 → (D 46 14 = D 46 17 ∧ D 46 13 = D 46 18 ∧ ∀ i, i < x → D 56 i = D 57 i) → z_Ok mX4_isAsKept 30 [some (.ref 46), some (.int 1), some (.int (nI x))] [] D (z_pi (z_bo (D 46 14 = D 46 17 ∧ D 46 13 = D 46 18 ∧ ∀ i, i ≤ a → D 56 i = D 57 i) D)) := by
    intro m
    induction m with
    | zero =>
      intro x hx hE
      have e1 : (D 46 14 < nI x) = True := by rw [h14, nI_ltI (by omega) (by omega)]; simp; omega
      apply bX4_isAsKept_30 <;> simp only [e1, not_true, false_imp_iff, true_imp_iff]
      · exact nar01 1 (Or.inr rfl)
      · exact ⟨rfl, Or.inl ⟨⟨hE.1, hE.2.1, fun i hi => hE.2.2 i (by omega)⟩, rfl⟩⟩
    | succ m ih =>
      intro x hx hE
      have e1 : (D 46 14 < nI x) = False := by rw [h14, nI_ltI (by omega) (by omega)]; simp; omega
      have e0 : (nI x).toNatClampNeg = x := nI_clamp (by omega)
      have e10 : ((1 : Int32) = 0) = False := by decide
      have ih' := ih (x + 1) (by omega)
      rw [nI_succ] at ih'
      apply bX4_isAsKept_30 <;> simp only [e1, e0, e10, not_false_eq_true, false_imp_iff, true_imp_iff]
      · exact vp_in_nI (by omega) (by omega)
      · intro c
        have fin : z_bo (D 46 14 = D 46 17 ∧ D 46 13 = D 46 18 ∧ ∀ i, i ≤ a → D 56 i = D 57 i) D 0 D := ⟨rfl, Or.inr ⟨fun q => c (q.2.2 x (by omega)), rfl⟩⟩
        refine bX4_isAsKept_30 (fun _ => nar01 0 (Or.inl rfl)) (fun _ _ => nar01 0 (Or.inl rfl)) (fun _ q => absurd rfl q) (fun _ => fin) (fun _ _ => fin) (fun _ q => absurd rfl q) (fun _ q => absurd rfl q)
      · intro c
        refine ih' ⟨hE.1, hE.2.1, fun i hi => ?_⟩
        by_cases e : i = x
        · rw [e]; exact c
        · exact hE.2.2 i (by omega)
  have no : ¬ (D 46 14 = D 46 17 ∧ D 46 13 = D 46 18) → z_Ok mX4_isAsKept 30 [some (.ref 46), some (.int 0), some (.int 0)] [] D (z_pi (z_bo (D 46 14 = D 46 17 ∧ D 46 13 = D 46 18 ∧ ∀ i, i ≤ a → D 56 i = D 57 i) D)) := by
    intro c
    have fin : z_bo (D 46 14 = D 46 17 ∧ D 46 13 = D 46 18 ∧ ∀ i, i ≤ a → D 56 i = D 57 i) D 0 D := ⟨rfl, Or.inr ⟨fun q => c ⟨q.1, q.2.1⟩, rfl⟩⟩
    exact bX4_isAsKept_30 (fun _ => nar01 0 (Or.inl rfl)) (fun _ _ => nar01 0 (Or.inl rfl)) (fun _ q => absurd rfl q) (fun _ => fin) (fun _ _ => fin) (fun _ q => absurd rfl q) (fun _ q => absurd rfl q)
  exact bX4_isAsKept_0 (fun c => no (fun q => c q.1)) (fun _ c => no (fun q => c q.2)) (fun c1 c2 => loop (a + 1) 0 (by omega) ⟨c1, c2, fun i hi => by omega⟩)
theorem uX1_wentLike {D : zM} {a : Nat} (h2 : D 32 2 = nI a) (ha : a ≤ 29) : z_Ci mX1_wentLike [.ref 32, .ref 35] D (z_bo (D 32 4 = D 35 4 ∧ D 32 2 = D 35 2 ∧ ∀ i, i ≤ a → D 33 i = D 36 i) D) := by
  have loop : ∀ (m x : Nat), x + m = a + 1 → (D 32 4 = D 35 4 ∧ D 32 2 = D 35 2 ∧ ∀ i, i < x → D 33 i = D 36 i) → z_Ok mX1_wentLike 26 [some (.ref 32), some (.ref 35), some (.int (nI x))] [] D (z_pi (z_bo (D 32 4 = D 35 4 ∧ D 32 2 = D 35 2 ∧ ∀ i, i ≤ a → D 33 i = D 36 i) D)) := by
    intro m
    induction m with
    | zero =>
      intro x hx hE
      have e1 : (D 32 2 < nI x) = True := by rw [h2, nI_ltI (by omega) (by omega)]; simp; omega
      apply bX1_wentLike_26 <;> simp only [e1, not_true, false_imp_iff, true_imp_iff]
      exact ⟨rfl, Or.inl ⟨⟨hE.1, hE.2.1, fun i hi => hE.2.2 i (by omega)⟩, rfl⟩⟩
    | succ m ih =>
      intro x hx hE
      have e1 : (D 32 2 < nI x) = False := by rw [h2, nI_ltI (by omega) (by omega)]; simp; omega
      have e0 : (nI x).toNatClampNeg = x := nI_clamp (by omega)
      have ih' := ih (x + 1) (by omega)
      rw [nI_succ] at ih'
      apply bX1_wentLike_26 <;> simp only [e1, e0, not_false_eq_true, false_imp_iff, true_imp_iff]
      · exact vp_in_nI (by omega) (by omega)
      · intro c
        refine ih' ⟨hE.1, hE.2.1, fun i hi => ?_⟩
        by_cases e : i = x
        · rw [e]; exact c
        · exact hE.2.2 i (by omega)
      · intro c
        exact ⟨rfl, Or.inr ⟨fun q => c (q.2.2 x (by omega)), rfl⟩⟩
  exact bX1_wentLike_0 (fun c => ⟨rfl, Or.inr ⟨fun q => c q.1, rfl⟩⟩) (fun c1 c2 => loop (a + 1) 0 (by omega) ⟨c1, c2, fun i hi => by omega⟩) (fun _ c => ⟨rfl, Or.inr ⟨fun q => c q.2.1, rfl⟩⟩)
/-- a board is idle -/
def arX (s : zA) (n pl : Nat) : Nat → Option Nat := fun q => if q = pl then none else arN s n q
def smW (s : zA) (n pl p : Nat) : Bool := decide ((folR s (arN s n) (s 5 n) p).1 = (folR s (arX s n pl) (s 5 n) p).1 ∧ (folR s (arN s n) (s 5 n) p).2.1 = (folR s (arX s n pl) (s 5 n) p).2.1)
def idA (s : zA) (n pl : Nat) : Nat → Bool
  | 0 => true
  | p + 1 => idA s n pl p && (!en s p || smW s n pl p)
def idB (s : zA) (pl n : Nat) : Bool := bd s pl n && idA s n pl 10
theorem idA_stop {s : zA} {n pl p : Nat} (h : idA s n pl p = false) : ∀ m, idA s n pl (p + m) = false
  | 0 => h
  | m + 1 => by
    show (idA s n pl (p + m) && _) = false
    rw [idA_stop h m]
    rfl
theorem idA_yes {s : zA} {n pl p : Nat} (h : idA s n pl p = true) (h2 : en s p = false ∨ smW s n pl p = true) : idA s n pl (p + 1) = true := by
  show (idA s n pl p && (!en s p || smW s n pl p)) = true
  rcases h2 with q | q <;> simp [h, q]
theorem idA_no {s : zA} {n pl p : Nat} (h1 : en s p = true) (h2 : smW s n pl p = false) : idA s n pl (p + 1) = false := by
  show (idA s n pl p && (!en s p || smW s n pl p)) = false
  simp [h1, h2]
theorem arX_lt {s : zA} (hs : WF s) {n pl : Nat} (hn : n < 5) : ∀ p q, p < 10 → arX s n pl p = some q → q < 10 := fun p q hp h => by
  unfold arX at h
  by_cases e : p = pl
  · rw [if_pos e] at h; cases h
  · rw [if_neg e] at h; exact arN_lt hs hn p q hp h
set_option maxRecDepth 20000 in
theorem uX4_isIdle {D : zM} {s : zA} (hI : IM D s) (hs : WF s) {n pl : Nat} (hn : n < s 0 1) (hpl : pl < 10) : z_Ci mX4_isIdle [.ref 46, .int (nI pl), .int (nI n)] D (fun r E => r = bI (idB s pl n) ∧ z_ag 46 [54, 55, 56, 57] [13, 14, 15, 17, 18] D E) := by
  have h5 := hs.2.1
  have epl : (nI pl).toNatClampNeg = pl := nI_clamp (by omega)
  have e5 : (nI (5 * pl + n)).toNatClampNeg = 5 * pl + n := nI_clamp (by omega)
  have hto := hI.2.2.2.2.2.2 (5 * pl + n) (by omega)
  have i9 : (oI (aO (s 6 (5 * pl + n))) = -9) = (bd s pl n = false) := by
    rw [bd_iff hs (show 5 * pl + n < 50 by omega)]
    simp [bd]
  -- the loop
  have loop : bd s pl n = true → ∀ (m p : Nat) (E : zM), p + m = 10 → idA s n pl p = true → (∀ q, q < 10 → q ≠ pl → E 54 q = oI (arN s n q)) → z_ag 46 [54, 55, 56, 57] [13, 14, 15, 17, 18] D E → z_Ok mX4_isIdle 32 [some (.ref 46), some (.int (nI pl)), some (.int (nI n)), some (.int (oI (aO (s 6 (5 * pl + n))))), some (.int 1), some (.int (nI p))] [] E (z_pi (fun r E => r = bI (idB s pl n) ∧ z_ag 46 [54, 55, 56, 57] [13, 14, 15, 17, 18] D E)) := by
    intro hbd m
    induction m with
    | zero =>
      intro p E hp hid hE hag
      have e1 : (10 ≤ nI p) = True := by rw [nI10 p (by omega)]; simp; omega
      apply bX4_isIdle_32 <;> simp only [e1, not_true, false_imp_iff, true_imp_iff]
      · exact nar01 1 (Or.inr rfl)
      · refine ⟨?_, hag⟩
        rw [show p = 10 by omega] at hid
        simp [idB, hbd, hid, bI]
    | succ m ih =>
      intro p E hp hid hE hag
      have e1 : (10 ≤ nI p) = False := by rw [nI10 p (by omega)]; simp; omega
      have hIE := hI.ag hag (by decide) (by decide)
      have iz := zb_en hs hIE.2.2.1 (show p < 10 by omega)
      have e10 : ((1 : Int32) = 0) = False := by decide
      have ih' := fun E => ih (p + 1) E (by omega)
      rw [nI_succ p] at ih'
      apply bX4_isIdle_32 <;> simp only [e1, iz, e10, epl, not_false_eq_true, false_imp_iff, true_imp_iff]
      · exact fun _ => vp_in_nI hpl (by omega)
      · intro c
        -- with the board
        have hag1 := hag.up (q := 54) pl (oI (aO (s 6 (5 * pl + n)))) (by decide) (by decide)
        have hI1 := hI.ag hag1 (by decide) (by decide)
        have hA1 : AR (z_up E 54 pl (oI (aO (s 6 (5 * pl + n))))) (arN s n) := ⟨fun q hq => by
          by_cases e : q = pl
          · rw [e, z_up_eq]; rfl
          · rw [z_up_k e]; exact hE q hq e, arN_lt hs (by omega)⟩
        refine sX4_isIdle_67 (uX4_follows hI1 hs hA1 hn (show p < 10 by omega)) (fun F hF => bX4_isIdle_70 ?_)
        have hlen := (folR_le hs (arN s n) (s 5 n) p).2.1
        refine sX4_isIdle_71 (uX4_keeps hF.1.2.1 hlen) (fun G hG => bX4_isIdle_74 (vp_in_nI hpl (by omega)) ?_)
        rw [epl]
        obtain ⟨k1, k2, k3, k4⟩ := hG
        have hag2 := (hag1.trans (hF.2.mono (ps' := [54, 55, 56, 57]) (ks' := [13, 14, 15, 17, 18]) (by decide) (by decide))).trans (k4.mono (by decide) (by decide))
        have hag3 := hag2.up (q := 54) pl (-9) (by decide) (by decide)
        have hI3 := hI.ag hag3 (by decide) (by decide)
        have eG54 : G 54 = (z_up E 54 pl (oI (aO (s 6 (5 * pl + n))))) 54 := (k4.1 54 (by omega) (by decide)).trans (hF.2.1 54 (by omega) (by decide))
        have hA3 : AR (z_up G 54 pl (-9)) (arX s n pl) := ⟨fun q hq => by
          by_cases e : q = pl
          · rw [e, z_up_eq]; simp [arX, oI]
          · rw [z_up_k e, eG54, z_up_k e, hE q hq e]; simp [arX, e], arX_lt hs (by omega)⟩
        refine sX4_isIdle_86 (uX4_follows hI3 hs hA3 hn (show p < 10 by omega)) (fun K hK => bX4_isIdle_89 ?_)
        have hlen2 := (folR_le hs (arX s n pl) (s 5 n) p).2.1
        refine sX4_isIdle_90 (uX4_isAsKept hK.1.2.1 hlen2) (fun r L hL => bX4_isIdle_93 ?_)
        obtain ⟨rfl, hL⟩ := hL
        have hag4 := hag3.trans (hK.2.mono (ps' := [54, 55, 56, 57]) (ks' := [13, 14, 15, 17, 18]) (by decide) (by decide))
        have L54 : ∀ q, q < 10 → q ≠ pl → L 54 q = oI (arN s n q) := fun q hq e => by
          rw [hK.2.1 54 (by omega) (by decide), z_up_k e, eG54, z_up_k e]; exact hE q hq e
        have c17 : L 46 17 = nI (folR s (arN s n) (s 5 n) p).2.1.length := by rw [hK.2.2 17 (by decide), z_up_ne (by omega)]; exact k1
        have c18 : L 46 18 = nI (folR s (arN s n) (s 5 n) p).1 := by rw [hK.2.2 18 (by decide), z_up_ne (by omega), k2]; exact hF.1.1
        have c57 : ∀ i, i ≤ (folR s (arN s n) (s 5 n) p).2.1.length → L 57 i = nI ((p :: (folR s (arN s n) (s 5 n) p).2.1).getD i 0) := fun i hi => by
          rw [hK.2.1 57 (by omega) (by decide), z_up_ne (by omega), k3 i hi]; exact hF.1.2.2.2 i hi
        have hb1 := (folR_le hs (arN s n) (s 5 n) p).1
        have hb2 := (folR_le hs (arX s n pl) (s 5 n) p).1
        have key : (L 46 14 = L 46 17 ∧ L 46 13 = L 46 18 ∧ ∀ i, i ≤ (folR s (arX s n pl) (s 5 n) p).2.1.length → L 56 i = L 57 i) ↔ smW s n pl p = true := by
          rw [hK.1.2.1, c17, hK.1.1, c18, nI_eq (by omega) (by omega), nI_eq (by omega) (by omega)]
          simp only [smW, decide_eq_true_eq]
          constructor
          · rintro ⟨q1, q2, q3⟩
            exact ⟨q2.symm, ((same_iff hs (show p < 10 by omega) hK.1.2.2.2 c57 q1).mp q3).symm⟩
          · rintro ⟨q1, q2⟩
            have ql : (folR s (arX s n pl) (s 5 n) p).2.1.length = (folR s (arN s n) (s 5 n) p).2.1.length := by rw [q2]
            exact ⟨ql, q1.symm, (same_iff hs (show p < 10 by omega) hK.1.2.2.2 c57 ql).mpr q2.symm⟩
        rcases hL with ⟨q, rfl⟩ | ⟨q, rfl⟩
        · exact ih' L (idA_yes hid (Or.inr (key.mp q))) L54 hag4
        · have hno : smW s n pl p = false := by
            cases h9 : smW s n pl p with
            | false => rfl
            | true => exact absurd (key.mpr h9) q
          have hst := idA_stop (idA_no c hno) m
          rw [show p + 1 + m = 10 by omega] at hst
          have fin : (0 : Int32) = bI (idB s pl n) ∧ z_ag 46 [54, 55, 56, 57] [13, 14, 15, 17, 18] D L := ⟨by simp [idB, hst, bI], hag4⟩
          exact bX4_isIdle_32 (fun _ => nar01 0 (Or.inl rfl)) (fun _ _ => nar01 0 (Or.inl rfl)) (fun _ q => absurd rfl q) (fun _ => fin) (fun _ _ => fin) (fun _ q => absurd rfl q) (fun _ q => absurd rfl q)
      · intro c
        have c' : en s p = false := by simpa using c
        exact ih' E (idA_yes hid (Or.inl c')) hE hag
  apply bX4_isIdle_0 <;> try simp only [z_5pn, e5, hto, i9]
  · exact vp_in_nI (by omega) (by omega)
  · intro c
    refine sX4_isIdle_26 (uX4_laysArrows hI hs (show n < 5 by omega)) (fun E hE => bX4_isIdle_29 ?_)
    have fin : (0 : Int32) = bI (idB s pl n) ∧ z_ag 46 [54, 55, 56, 57] [13, 14, 15, 17, 18] D E := ⟨by simp [idB, c, bI], hE.2.mono (by decide) (by decide)⟩
    exact bX4_isIdle_32 (fun _ => nar01 0 (Or.inl rfl)) (fun _ _ => nar01 0 (Or.inl rfl)) (fun _ q => absurd rfl q) (fun _ => fin) (fun _ _ => fin) (fun _ q => absurd rfl q) (fun _ q => absurd rfl q)
  · intro c
    refine sX4_isIdle_26 (uX4_laysArrows hI hs (show n < 5 by omega)) (fun E hE => bX4_isIdle_29 ?_)
    have c' : bd s pl n = true := by simpa using c
    exact loop c' 10 0 E (by omega) rfl (fun q hq _ => hE.1.1 q hq) (hE.2.mono (by decide) (by decide))
