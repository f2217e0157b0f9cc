/-! FAR, in natural numbers: 100000 where one doesn't come -/
def rl1 (a b l : Nat) (f : Nat → Nat) : Nat → Nat := fun p => if p = a then min (f a) (f b + l) else f p
theorem rl1_le (a b l : Nat) (f : Nat → Nat) (p : Nat) : rl1 a b l f p ≤ f p := by
  unfold rl1
  split
  · rename_i e; subst e; omega
  · omega
def relM (s : zA) (k : Nat) (f : Nat → Nat) : Nat → Nat := if s 4 k = 1 then rl1 (s 1 k) (s 2 k) (s 3 k) (rl1 (s 2 k) (s 1 k) (s 3 k) f) else f
theorem relM_x {s : zA} {k : Nat} (hk : s 1 k ≠ s 2 k) (f : Nat → Nat) : relM s k f = if s 4 k = 1 then rl1 (s 2 k) (s 1 k) (s 3 k) (rl1 (s 1 k) (s 2 k) (s 3 k) f) else f := by
  unfold relM
  by_cases h : s 4 k = 1
  · rw [if_pos h, if_pos h]
    funext p
    unfold rl1
    by_cases e1 : p = s 1 k
    · subst e1
      simp [hk, Ne.symm hk]
      omega
    · by_cases e2 : p = s 2 k
      · subst e2
        simp [hk, Ne.symm hk]
        omega
      · simp [e1, e2]
  · rw [if_neg h, if_neg h]
def rndM (s : zA) : Nat → (Nat → Nat) → Nat → Nat
  | 0, f => f
  | k + 1, f => relM s k (rndM s k f)
def iniF (h : Nat) : Nat → Nat := fun p => if p = h then 0 else 100000
def farM (s : zA) (h : Nat) : Nat → Nat → Nat
  | 0 => iniF h
  | r + 1 => rndM s (s 0 0) (farM s h r)
def farF (s : zA) (h : Nat) : Nat → Nat := farM s h 9
def bdd (f : Nat → Nat) (t : Nat) : Prop := ∀ p, f p = 100000 ∨ f p ≤ 99 * t
theorem bdd.mono {f : Nat → Nat} {t u : Nat} (h : bdd f t) (htu : t ≤ u) : bdd f u := fun p => (h p).imp id (fun q => by omega)
theorem bdd.le {f : Nat → Nat} {t : Nat} (h : bdd f t) (ht : t ≤ 1000) (p : Nat) : f p ≤ 100000 := by
  rcases h p with q | q <;> omega
theorem rl1_bdd {a b l t : Nat} {f : Nat → Nat} (h : bdd f t) (hl : l ≤ 99) (ht : t < 1000) : bdd (rl1 a b l f) (t + 1) := by
  intro p
  have ha := h a
  have hb := h b
  have hp := h p
  unfold rl1
  split
  · omega
  · omega
theorem relM_bdd {s : zA} (hs : WF s) {k t : Nat} {f : Nat → Nat} (hk : k < s 0 0) (h : bdd f t) (ht : t < 990) : bdd (relM s k f) (t + 2) := by
  have hl := (hs.2.2.2.2.1 k hk).2.2.2.1
  unfold relM
  split
  · exact rl1_bdd (rl1_bdd h hl (by omega)) hl (by omega)
  · exact h.mono (by omega)
theorem rndM_bdd {s : zA} (hs : WF s) {t : Nat} {f : Nat → Nat} (h : bdd f t) (ht : t < 900) : ∀ k, k ≤ s 0 0 → bdd (rndM s k f) (t + 2 * k)
  | 0, _ => h
  | k + 1, hk => by
    have h14 := hs.1
    have := relM_bdd hs (show k < s 0 0 by omega) (rndM_bdd hs h ht k (by omega)) (by omega)
    exact this.mono (by omega)
theorem farM_bdd {s : zA} (hs : WF s) (h : Nat) : ∀ r, r ≤ 9 → bdd (farM s h r) (28 * r)
  | 0, _ => fun p => by
    show iniF h p = 100000 ∨ iniF h p ≤ 0
    unfold iniF
    split <;> simp
  | r + 1, hr => by
    have h14 := hs.1
    have := rndM_bdd hs (farM_bdd hs h r (by omega)) (by omega) (s 0 0) (Nat.le_refl _)
    exact this.mono (by omega)
theorem farF_bdd {s : zA} (hs : WF s) (h : Nat) : bdd (farF s h) 252 := farM_bdd hs h 9 (by omega)
/-- BEST -/
def bst (s : zA) (f : Nat → Nat) (p : Nat) : Option Nat := if f p = 0 ∨ 100000 ≤ f p then none else z_fst (fun q => oa s p q && decide (f q + ol s p q = f p)) 10 0
theorem bst_spec {s : zA} {f : Nat → Nat} {p q : Nat} (h : bst s f p = some q) : q < 10 ∧ oa s p q = true ∧ f q + ol s p q = f p ∧ f p ≠ 0 ∧ f p < 100000 := by
  unfold bst at h
  by_cases c : f p = 0 ∨ 100000 ≤ f p
  · rw [if_pos c] at h; cases h
  · rw [if_neg c] at h
    obtain ⟨-, h2, h3, -⟩ := z_fst_some h
    simp only [Bool.and_eq_true, decide_eq_true_eq] at h3
    exact ⟨by omega, h3.1, h3.2, by omega, by omega⟩
def bsX (s : zA) (f : Nat → Nat) (p q : Nat) : Bool := oa s p q && (decide (f q ≠ 100000) && (decide (f p ≠ 100000) && decide (f q + ol s p q = f p)))
theorem bsX_bst {s : zA} (hs : WF s) {f : Nat → Nat} {t : Nat} (hf : bdd f t) (ht : t ≤ 1000) (p : Nat) : z_fst (bsX s f p) 10 0 = bst s f p := by
  unfold bst
  have hp := hf.le ht p
  by_cases c : f p = 0 ∨ 100000 ≤ f p
  · rw [if_pos c]
    refine z_fst_no (fun q _ _ => ?_)
    unfold bsX
    cases ho : oa s p q with
    | false => simp
    | true =>
      have := (ol_pos hs ho).1
      simp
      omega
  · rw [if_neg c]
    have e : bsX s f p = (fun q => oa s p q && decide (f q + ol s p q = f p)) := by
      funext q
      unfold bsX
      cases ho : oa s p q with
      | false => simp
      | true =>
        have := (ol_pos hs ho).1
        by_cases e : f q + ol s p q = f p
        · have h1 : f q ≠ 100000 := by omega
          have h2 : f p ≠ 100000 := by omega
          simp [e, h1, h2]
        · simp [e]
    rw [e]
/-! the reference -/
def FA (D : zM) (f : Nat → Nat) : Prop := ∀ p, p < 10 → D 53 p = nI (f p)
theorem uX4_draws {D : zM} {f : Nat → Nat} {a b l : Nat} (hF : FA D f) (hle : ∀ p, f p ≤ 100000) (ha : a < 10) (hb : b < 10) (hl : l ≤ 99) : z_Cv mX4_draws [.ref 46, .int (nI a), .int (nI b), .int (nI l)] D (fun E => FA E (rl1 a b l f) ∧ z_ag 46 [53] [] D E) := by
  have ea : (nI a).toNatClampNeg = a := nI_clamp (by omega)
  have eb : (nI b).toNatClampNeg = b := nI_clamp (by omega)
  have h1 := hle a
  have h2 := hle b
  have i1 : (nI (f a) ≤ nI (f b + l)) = (f a ≤ f b + l) := propext (nI_leI (by omega) (by omega))
  apply bX4_draws_0 <;> try simp only [ea, eb, hF a ha, hF b hb, nI_add, i1]
  · exact vp_in_nI hb (by omega)
  · exact vp_in_nI ha (by omega)
  · intro c
    refine ⟨fun p hp => ?_, z_ag.rfl.up _ _ (by decide) (by decide)⟩
    by_cases e : p = a
    · subst e
      rw [z_up_eq]
      refine congrArg nI ?_
      unfold rl1
      rw [if_pos rfl]
      omega
    · rw [z_up_k e, hF p hp]
      unfold rl1
      rw [if_neg e]
  · intro c
    refine ⟨fun p hp => ?_, z_ag.rfl.up _ _ (by decide) (by decide)⟩
    by_cases e : p = a
    · subst e
      rw [z_up_eq]
      refine congrArg nI ?_
      unfold rl1
      rw [if_pos rfl]
      omega
    · rw [z_up_k e, hF p hp]
      unfold rl1
      rw [if_neg e]
theorem uX4_ff_init {D : zM} {s : zA} (hI : IM D s) (hs : WF s) {n : Nat} (hn : n < s 0 1) {Q : zM → Prop} (k : ∀ E, FA E (iniF (s 5 n)) → z_ag 46 [53] [] D E → z_Ok mX4_findFar 38 [some (.ref 46), some (.int (nI n)), some (.int 1), none] [] E (z_pv Q)) :
    z_Cv mX4_findFar [.ref 46, .int (nI n)] D Q := by
  have h5 := hs.2.1
  have hh := hs.2.2.2.2.2.1 n hn
  refine bX4_findFar_0 ?_
  have loop : ∀ (m p : Nat) (E : zM), p + m = 10 → (∀ q, q < p → E 53 q = nI (iniF (s 5 n) q)) → z_ag 46 [53] [] D E → z_Ok mX4_findFar 2 [some (.ref 46), some (.int (nI n)), some (.int (nI p)), none] [] E (z_pv Q) := by
    intro m
    induction m with
    | zero =>
      intro p E hp hE hag
      have e1 : (10 ≤ nI p) = True := by rw [nI10 p (by omega)]; simp; omega
      apply bX4_findFar_2 <;> simp only [e1, not_true, false_imp_iff, true_imp_iff]
      exact k E (fun q hq => hE q (by omega)) hag
    | succ m ih =>
      intro p E hp hE hag
      have e1 : (10 ≤ nI p) = False := by rw [nI10 p (by omega)]; simp; omega
      have e0 : (nI p).toNatClampNeg = p := nI_clamp (by omega)
      have en : (nI n).toNatClampNeg = n := nI_clamp (by omega)
      have eh : E 51 n = nI (s 5 n) := by rw [hag.1 51 (by omega) (by decide)]; exact hI.2.2.2.2.2.1 n hn
      have i1 : (nI p = nI (s 5 n)) = (p = s 5 n) := propext (nI_eq (by omega) (by omega))
      have ih' := fun E => ih (p + 1) E (by omega)
      rw [nI_succ] at ih'
      have st : ∀ v : Nat, v = iniF (s 5 n) p → z_Ok mX4_findFar 2 [some (.ref 46), some (.int (nI n)), some (.int (nI p + 1)), none] [] (z_up E 53 p (nI v)) (z_pv Q) := by
        intro v hv
        refine ih' _ (fun q hq => ?_) (hag.up _ _ (by decide) (by decide))
        by_cases e : q = p
        · rw [e, z_up_eq, hv]
        · rw [z_up_k e]; exact hE q (by omega)
      apply bX4_findFar_2 <;> simp only [e1, e0, en, eh, i1, not_false_eq_true, false_imp_iff, true_imp_iff]
      · exact vp_in_nI (by omega) (by omega)
      · exact fun _ => vp_in_nI (by omega) (by omega)
      · exact fun _ => vp_in_nI (by omega) (by omega)
      · exact fun c => st 100000 (by unfold iniF; rw [if_neg c])
      · exact fun c => st 0 (by unfold iniF; rw [if_pos c])
  exact loop 10 0 D (by omega) (fun q hq => by omega) z_ag.rfl
theorem uX4_findFar {D : zM} {s : zA} (hI : IM D s) (hs : WF s) {n : Nat} (hn : n < s 0 1) : z_Cv mX4_findFar [.ref 46, .int (nI n)] D (fun E => FA E (farF s (s 5 n)) ∧ z_ag 46 [53] [] D E) := by
  have h14 := hs.1
  refine uX4_ff_init hI hs hn (fun E0 hF0 hag0 => ?_)
  have rounds : ∀ (m r : Nat) (o3 : Option Value) (E : zM), r + m = 9 → FA E (farM s (s 5 n) r) → z_ag 46 [53] [] D E → z_Ok mX4_findFar 38 [some (.ref 46), some (.int (nI n)), some (.int (nI (r + 1))), o3] [] E (z_pv (fun E => FA E (farF s (s 5 n)) ∧ z_ag 46 [53] [] D E)) := by
    intro m
    induction m with
    | zero =>
      intro r o3 E hr hF hag
      have e1 : (10 ≤ nI (r + 1)) = True := by rw [nI10 (r + 1) (by omega)]; simp; omega
      apply bX4_findFar_38 <;> simp only [e1, not_true, false_imp_iff, true_imp_iff]
      exact ⟨by rw [show r = 9 by omega] at hF; exact hF, hag⟩
    | succ m ih =>
      intro r o3 E hr hF hag
      have e1 : (10 ≤ nI (r + 1)) = False := by rw [nI10 (r + 1) (by omega)]; simp; omega
      apply bX4_findFar_38 <;> simp only [e1, not_false_eq_true, false_imp_iff, true_imp_iff]
      have walks : ∀ (j k : Nat) (E : zM), k + j = s 0 0 → FA E (rndM s k (farM s (s 5 n) r)) → z_ag 46 [53] [] D E → z_Ok mX4_findFar 46 [some (.ref 46), some (.int (nI n)), some (.int (nI (r + 1))), some (.int (nI k))] [] E (z_pv (fun E => FA E (farF s (s 5 n)) ∧ z_ag 46 [53] [] D E)) := by
        intro j
        induction j with
        | zero =>
          intro k E hk hF hag
          have hI2 := hI.ag hag (by decide) (by decide)
          have e1 : (E 46 0 ≤ nI k) = True := by rw [hI2.1, nI_leI (by omega) (by omega)]; simp; omega
          apply bX4_findFar_46 <;> simp only [e1, not_true, false_imp_iff, true_imp_iff]
          have := ih (r + 1) (some (.int (nI k))) E (by omega) (by rw [show k = s 0 0 by omega] at hF; exact hF) hag
          rw [nI_succ (r + 1)] at this
          exact this
        | succ j ihj =>
          intro k E hk hF hag
          have hI2 := hI.ag hag (by decide) (by decide)
          have e1 : (E 46 0 ≤ nI k) = False := by rw [hI2.1, nI_leI (by omega) (by omega)]; simp; omega
          have e0 : (nI k).toNatClampNeg = k := nI_clamp (by omega)
          obtain ⟨f1, f2, f3, f4⟩ := hI2.2.2.2.2.1 k (by omega)
          obtain ⟨g1, g2, g3, g4, g5, -⟩ := hs.2.2.2.2.1 k (by omega)
          have i4 : (nI (s 4 k) = 0) = (s 4 k = 0) := by rw [n0]; exact propext (nI_eq (by omega) (by omega))
          have hb := rndM_bdd hs (farM_bdd hs (s 5 n) r (by omega)) (by omega) k (by omega)
          have ihj' := fun E => ihj (k + 1) E (by omega)
          rw [nI_succ k] at ihj'
          apply bX4_findFar_46 <;> simp only [e1, e0, f1, f2, f3, f4, i4, not_false_eq_true, false_imp_iff, true_imp_iff]
          · exact vp_in_nI (by omega) (by omega)
          · intro c
            refine ihj' E ?_ hag
            show FA E (relM s k (rndM s k (farM s (s 5 n) r)))
            rw [relM, if_neg (by omega)]
            exact hF
          · intro c
            refine sX4_findFar_82 (uX4_draws hF (fun p => hb.le (by omega) p) g2 (by omega) g4) (fun E1 hE1 => ?_)
            have hag1 := hag.trans hE1.2
            have hI3 := hI.ag hag1 (by decide) (by decide)
            obtain ⟨w1, w2, w3, -⟩ := hI3.2.2.2.2.1 k (by omega)
            refine bX4_findFar_85 (vp_in_nI (by omega) (by omega)) ?_
            rw [e0, w1, w2, w3]
            refine sX4_findFar_104 (uX4_draws hE1.1 (fun p => Nat.le_trans (rl1_le _ _ _ _ p) (hb.le (by omega) p)) (by omega) g2 g4) (fun E2 hE2 => bX4_findFar_107 ?_)
            refine ihj' E2 ?_ (hag1.trans hE2.2)
            show FA E2 (relM s k (rndM s k (farM s (s 5 n) r)))
            rw [relM, if_pos (by omega)]
            exact hE2.1
      exact walks (s 0 0) 0 E (by omega) hF hag
  exact rounds 9 0 none E0 (by omega) hF0 hag0
theorem uX4_bestAt {D : zM} {s : zA} (hI : IM D s) (hs : WF s) {f : Nat → Nat} (hF : FA D f) (hle : ∀ p, f p ≤ 100000) {p : Nat} (hp : p < 10) : z_Ci mX4_bestAt [.ref 46, .int (nI p)] D (z_va (oI (bst s f p)) D) := by
  have h14 := hs.1
  have ep : (nI p).toNatClampNeg = p := nI_clamp (by omega)
  have hfp := hle p
  have i1 : (nI (f p) = 0) = (f p = 0) := by rw [n0]; exact propext (nI_eq (by omega) (by omega))
  have i2 : (nI (f p) < 100000) = (f p < 100000) := by rw [show (100000 : Int32) = nI 100000 from rfl]; exact propext (nI_ltI (by omega) (by omega))
  have loop : f p ≠ 0 → f p < 100000 → ∀ (m q : Nat) (o3 : Option Value), q + m = 10 → z_Ok mX4_bestAt 25 [some (.ref 46), some (.int (nI p)), some (.int (nI q)), o3] [] D (z_pi (z_va (oI (z_fst (fun q => oa s p q && decide (f q + ol s p q = f p)) m q)) D)) := by
    intro c1 c2 m
    induction m with
    | zero =>
      intro q o3 hq
      have e1 : (10 ≤ nI q) = True := by rw [nI10 q (by omega)]; simp; omega
      apply bX4_bestAt_25 <;> simp only [e1, not_true, false_imp_iff, true_imp_iff]
      exact ⟨rfl, rfl⟩
    | succ m ih =>
      intro q o3 hq
      have e1 : (10 ≤ nI q) = False := by rw [nI10 q (by omega)]; simp; omega
      have eq0 : (nI q).toNatClampNeg = q := nI_clamp (by omega)
      have i3 : (nI q = nI p) = (q = p) := propext (nI_eq (by omega) (by omega))
      have ih' := fun o => ih (q + 1) o (by omega)
      rw [nI_succ] at ih'
      have skip : ¬ (oa s p q = true ∧ f q + ol s p q = f p) → z_fst (fun q => oa s p q && decide (f q + ol s p q = f p)) (m + 1) q = z_fst (fun q => oa s p q && decide (f q + ol s p q = f p)) m (q + 1) := fun hh => if_neg (by simpa using hh)
      apply bX4_bestAt_25 <;> simp only [e1, i3, not_false_eq_true, false_imp_iff, true_imp_iff]
      · intro c
        refine sX4_bestAt_44 (uX4_openBetween hI hs hp (show q < 10 by omega)) (fun r D1 hr => ?_)
        obtain ⟨rfl, rfl⟩ := hr
        cases hk : obt s p q with
        | none =>
          have hno : oa s p q = false := by unfold oa; rw [hk]; rfl
          refine bX4_bestAt_47 (fun z => absurd rfl z) (fun z => absurd rfl z) (fun z => absurd rfl z) (fun _ => ?_) (fun z => absurd rfl z) (fun z => absurd rfl z)
          rw [skip (fun z => by rw [hno] at z; cases z.1)]
          exact ih' _
        | some k =>
          obtain ⟨k1, k2, k3⟩ := (obt_iff hs).mp hk
          have hyes : oa s p q = true := by unfold oa; rw [hk]; rfl
          have hol : ol s p q = s 3 k := ol_of hs k1 k2 k3
          obtain ⟨-, -, w3, -⟩ := hI.2.2.2.2.1 k k1
          have g4 := (hs.2.2.2.2.1 k k1).2.2.2.1
          have e9 : ¬ nI k = -9 := nI_ne9 (by omega)
          have ek : (nI k).toNatClampNeg = k := nI_clamp (by omega)
          have hfq := hle q
          have i5 : D1 53 (nI q).toNatClampNeg + D1 49 (nI k).toNatClampNeg = D1 53 (nI p).toNatClampNeg ↔ f q + ol s p q = f p := by
            rw [eq0, ek, ep, hF q (by omega), hF p hp, w3, nI_add, hol]
            exact nI_eq (by omega) (by omega)
          refine bX4_bestAt_47 (fun _ => vp_in_nI (by omega) (by omega)) (fun _ => vp_in_nI (by omega) (by omega)) (fun _ => vp_in_nI hp (by omega)) (fun z => absurd z e9) (fun _ z => ?_) (fun _ z => ?_)
          · rw [skip (fun y => z (i5.mpr y.2))]
            exact ih' _
          · refine ⟨rfl, ?_⟩
            rw [show z_fst (fun q => oa s p q && decide (f q + ol s p q = f p)) (m + 1) q = some q from if_pos (by simp [hyes, i5.mp z])]
            rfl
      · intro c
        rw [skip (fun z => by have := oa_lt hs z.1; omega)]
        exact ih' _
  apply bX4_bestAt_0 <;> try simp only [ep, hF p hp, i1, i2]
  · exact vp_in_nI hp (by omega)
  · intro c
    exact ⟨rfl, by unfold bst; rw [if_pos (by omega)]; rfl⟩
  · intro c1 c2
    have := loop c1 c2 10 0 none (by omega)
    unfold bst
    rw [if_neg (by omega)]
    exact this
  · intro c1 c2
    exact ⟨rfl, by unfold bst; rw [if_pos (by omega)]; rfl⟩
