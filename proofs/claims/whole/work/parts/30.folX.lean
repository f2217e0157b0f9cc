/-! ONE WHO FOLLOWS: the reference's whole method; the class -/
def folR (s : zA) (ar : Nat → Option Nat) (h p : Nat) : Nat × List Nat × Nat := fol s ar h 29 p none (fun _ _ => false)
def FMr (E : zM) (r : Nat × List Nat × Nat) (p : Nat) : Prop := E 46 13 = nI r.1 ∧ E 46 14 = nI r.2.1.length ∧ E 46 15 = nI r.2.2 ∧ ∀ i, i ≤ r.2.1.length → E 56 i = nI ((p :: r.2.1).getD i 0)
theorem cV_0 (s : zA) : cV s (fun _ _ => false) = 0 := by
  unfold cV
  rw [sm_congr (g := fun _ => 0) (fun k _ => by simp), sm_zero]
set_option maxRecDepth 20000 in
theorem uX4_follows {D : zM} {s : zA} (hI : IM D s) (hs : WF s) {ar : Nat → Option Nat} (hA : AR D ar) {n p : Nat} (hn : n < s 0 1) (hp : p < 10) : z_Cv mX4_follows [.ref 46, .int (nI p), .int (nI n)] D (fun E => FMr E (folR s ar (s 5 n) p) p ∧ z_ag 46 [55, 56] [13, 14, 15] D E) := by
  have h14 := hs.1
  refine bX4_follows_0 ?_
  have loop : ∀ (m x : Nat) (E : zM), x + m = 140 → (∀ i, i < x → E 55 i = 0) → z_ag 46 [55, 56] [13, 14, 15] D E → z_Ok mX4_follows 2 [some (.ref 46), some (.int (nI p)), some (.int (nI n)), some (.int (nI x)), none, none] [] E (z_pv (fun E => FMr E (folR s ar (s 5 n) p) p ∧ z_ag 46 [55, 56] [13, 14, 15] D E)) := by
    intro m
    induction m with
    | zero =>
      intro x E hx hE hag
      have e1 : (140 ≤ nI x) = True := by rw [show (140 : Int32) = nI 140 from rfl, nI_leI (by omega) (by omega)]; simp; omega
      apply bX4_follows_2 <;> simp only [e1, not_true, false_imp_iff, true_imp_iff]
      · exact vp_in_nI (n := 0) (by omega) (by omega)
      · rw [show (0 : Int32).toNatClampNeg = 0 from rfl]
        generalize hF : z_up (z_up (z_up (z_up E 46 14 0) 46 15 0) 56 0 (nI p)) 46 13 (-9) = F
        have agF : z_ag 46 [55, 56] [13, 14, 15] D F := by
          rw [← hF]
          exact (((hag.fld _ (by decide)).fld _ (by decide)).up _ _ (by decide) (by decide)).fld _ (by decide)
        have hIF := hI.ag agF (by decide) (by decide)
        have hAF : AR F ar := ⟨fun t ht => by rw [agF.1 54 (by omega) (by decide)]; exact hA.1 t ht, hA.2⟩
        have c13 : F 46 13 = -9 := by rw [← hF, z_up_eq]
        have c14 : F 46 14 = nI 0 := by rw [← hF, z_up_k (by omega), z_up_ne (by omega), z_up_k (by omega), z_up_eq]; rfl
        have c15 : F 46 15 = nI 0 := by rw [← hF, z_up_k (by omega), z_up_ne (by omega), z_up_eq]; rfl
        have c55 : F 55 = E 55 := by rw [← hF, z_up_ne (by omega), z_up_ne (by omega), z_up_ne (by omega), z_up_ne (by omega)]
        have c56 : F 56 0 = nI p := by rw [← hF, z_up_ne (by omega), z_up_eq]
        have hH : HC F s (fun _ _ => false) := fun k hk => by
          obtain ⟨g1, g2, -⟩ := hs.2.2.2.2.1 k hk
          rw [c55, hE _ (by omega), hE _ (by omega)]
          exact ⟨rfl, rfl⟩
        have := uX4_fol_loop hs hn (x1 := nI p) 29 0 0 p none none (fun _ _ => false) none F hIF hAF c13 c14 c15 hH (Or.inl ⟨rfl, rfl⟩) (by rw [cV_0]) (by omega) hp c56
        refine z_weak this (fun o G hG => ?_)
        cases o with
        | some _ => exact hG.elim
        | none =>
          obtain ⟨⟨b1, b2, b3, b4, b5⟩, b6⟩ := hG
          rw [Nat.zero_add] at b2 b3
          exact ⟨⟨b1, b2, b3, fun i hi => by have := b5 i hi; rw [Nat.zero_add] at this; exact this⟩, agF.trans b6⟩
    | succ m ih =>
      intro x E hx hE hag
      have e1 : (140 ≤ nI x) = False := by rw [show (140 : Int32) = nI 140 from rfl, nI_leI (by omega) (by omega)]; simp; omega
      have e0 : (nI x).toNatClampNeg = x := nI_clamp (by omega)
      have ih' := fun E => ih (x + 1) E (by omega)
      rw [nI_succ] at ih'
      apply bX4_follows_2 <;> simp only [e1, e0, not_false_eq_true, false_imp_iff, true_imp_iff]
      · exact vp_in_nI (by omega) (by omega)
      · refine ih' _ (fun i hi => ?_) (hag.up _ _ (by decide) (by decide))
        by_cases e : i = x
        · rw [e, z_up_eq]
        · rw [z_up_k e]; exact hE i (by omega)
  exact loop 140 0 D (by omega) (fun i hi => by omega) z_ag.rfl
/-! the class -/
theorem nb_andn {a b : Nat} (ha : a < 1024) : nI a &&& (nI b ^^^ -1) = nI (bm (fun q => a.testBit q && !b.testBit q) 10) := by
  apply Int32.toBitVec_inj.1
  show BitVec.ofNat 32 a &&& (BitVec.ofNat 32 b ^^^ BitVec.allOnes 32) = BitVec.ofNat 32 (bm (fun q => a.testBit q && !b.testBit q) 10)
  apply BitVec.eq_of_getLsbD_eq
  intro i hi
  simp only [BitVec.getLsbD_and, BitVec.getLsbD_xor, BitVec.getLsbD_ofNat, BitVec.getLsbD_allOnes, hi, decide_true, Bool.true_and, bm_bit, Bool.bne_true]
  by_cases h : i < 10
  · simp [h]
  · have : a < 2 ^ i := Nat.lt_of_lt_of_le ha (Nat.pow_le_pow_right (n := 2) (by omega) (show 10 ≤ i by omega))
    simp [h, Nat.testBit_lt_two_pow this]
theorem and_pow0 (m p : Nat) : m &&& 2 ^ p = 0 ↔ m.testBit p = false := by
  constructor
  · intro h
    have := congrArg (fun x => x.testBit p) h
    simpa [Nat.testBit_and, Nat.testBit_two_pow] using this
  · intro h
    apply Nat.eq_of_testBit_eq
    intro i
    rw [Nat.testBit_and, Nat.testBit_two_pow]
    by_cases e : p = i
    · subst e; simp [h]
    · simp [e]
def bkI (o : Option Nat) : Int32 := match o with
  | none => 0
  | some q => nI (2 ^ q)
theorem bk_andn {s : zA} {p : Nat} {prev : Option Nat} (hp : ∀ q, prev = some q → q < 10) : nI (bm (oa s p) 10) &&& (bkI prev ^^^ -1) = nI (bm (nx s p prev) 10) := by
  have hb := bm_lt (oa s p) 10
  cases prev with
  | none =>
    show nI (bm (oa s p) 10) &&& (nI 0 ^^^ -1) = _
    rw [nb_andn hb]
    refine congrArg nI (bm_congr (fun q hq => ?_))
    rw [bm_bit]
    simp [nx, hq]
  | some t =>
    show nI (bm (oa s p) 10) &&& (nI (2 ^ t) ^^^ -1) = _
    rw [nb_andn hb]
    refine congrArg nI (bm_congr (fun q hq => ?_))
    rw [bm_bit, Nat.testBit_two_pow]
    simp [nx, hq]
theorem bm_none {f : Nat → Bool} {n : Nat} : bm f n = 0 ↔ z_fst f n 0 = none := by
  constructor
  · intro h
    refine z_fst_no (fun i _ hi => ?_)
    have := bm_bit f n i
    rw [h] at this
    simpa [show i < n by omega] using this.symm
  · intro h
    apply Nat.eq_of_testBit_eq
    intro i
    rw [bm_bit]
    by_cases hi : i < n
    · simp [z_fst_none h i (Nat.zero_le _) (by omega)]
    · simp [hi]
theorem bm_one {f : Nat → Bool} {n q : Nat} (h : z_fst f n 0 = some q) (h1 : ct f n ≤ 1) : bm f n = 2 ^ q := by
  obtain ⟨-, a2, a3, a4⟩ := z_fst_some h
  apply Nat.eq_of_testBit_eq
  intro i
  rw [bm_bit, Nat.testBit_two_pow]
  by_cases hi : i < n
  · cases hf : f i with
    | true =>
      have e := ct_uniq h1 hi (show q < n by omega) hf a3
      subst e
      simp [hi]
    | false =>
      have : ¬ q = i := fun e => by rw [e, hf] at a3; cases a3
      simp [this]
  · have : ¬ q = i := by omega
    simp [hi, this]
theorem z_bcp : ∀ q, q < 10 → z_bc (nI (2 ^ q) - 1) = nI q := by decide +kernel
def nfP (r : Nat ⊕ Nat) (y : Int32) : Prop := match r with
  | .inl e => y = -nI e
  | .inr q => y = nI q
theorem uX1_nextFrom {D : zM} {s : zA} (hX : IX D s) (hs : WF s) {ar : Nat → Option Nat} {p : Nat} (hp : p < 10) (har : ∀ q, ar p = some q → q < 10) {prev : Option Nat} (hpv : ∀ q, prev = some q → q < 10) :
    z_Ci mX1_nextFrom [.ref 1, .int (nI p), .int (bkI prev), .int (oI (ar p))] D (fun y E => E = D ∧ nfP (nxt s ar p prev) y) := by
  have ep : (nI p).toNatClampNeg = p := nI_clamp (by omega)
  have h6 := hX.2.2.2.2.2.2.2.1 p hp
  have hbm := bm_lt (nx s p prev) 10
  have i0 : (nI (bm (nx s p prev) 10) = 0) = (z_fst (nx s p prev) 10 0 = none) := by
    rw [n0]
    exact propext ((nI_eq (by omega) (by omega)).trans bm_none)
  have i1 : (nI (ct (nx s p prev) 10) ≤ 1) = (ct (nx s p prev) 10 ≤ 1) := by
    have := ct_le (nx s p prev) 10
    rw [n1]
    exact propext (nI_leI (by omega) (by omega))
  have i9 : (oI (ar p) = -9) = (ar p = none) := propext (oI_ne9 (fun k hk => by have := har k hk; omega))
  apply bX1_nextFrom_0 <;> try simp only [ep, h6, bk_andn hpv, i0, z_bc_all _ hbm, ct_bm, i1, i9]
  · exact vp_in_nI hp (by omega)
  · intro c1 c2 c3
    cases hf : z_fst (nx s p prev) 10 0 with
    | none => exact absurd hf c2
    | some q =>
      have hq := (z_fst_some hf).2.1
      refine ⟨rfl, ?_⟩
      rw [nxt_fst c1 hf, if_pos c3, bm_one hf c3, z_bcp q (by omega)]
      rfl
  · intro c1 c2 c3
    cases hf : z_fst (nx s p prev) 10 0 with
    | none => exact absurd hf c2
    | some q =>
      refine ⟨rfl, ?_⟩
      rw [nxt_fst c1 hf, if_neg c3]
      show (-1 : Int32) = -nI 1
      decide
  · intro c1 c2
    refine ⟨rfl, ?_⟩
    rw [nxt_none c1 c2]
    show (-2 : Int32) = -nI 2
    decide
  · intro c1 c2
    cases ha : ar p with
    | none => exact absurd ha c1
    | some q =>
      have hq := har q ha
      rw [ha] at c2
      have hb2 := bm_lt (oa s p) 10
      have c3 : oa s p q = true := by
        have := (zb_bit (by omega) hq).mp c2
        rw [bm_bit] at this
        simpa [hq] using this
      refine ⟨rfl, ?_⟩
      rw [nxt_some ha, if_pos c3]
      rfl
  · intro c1 c2
    cases ha : ar p with
    | none => exact absurd ha c1
    | some q =>
      have hq := har q ha
      rw [ha] at c2
      have hb2 := bm_lt (oa s p) 10
      have c3 : ¬ oa s p q = true := fun z => c2 ((zb_bit (by omega) hq).mpr (by rw [bm_bit]; simp [hq, z]))
      refine ⟨rfl, ?_⟩
      rw [nxt_some ha, if_neg c3]
      show (-3 : Int32) = -nI 3
      decide
/-- which rows a follower is -/
def fO (f : Nat) (D E : zM) : Prop := ∀ q, q ≠ f → q ≠ f + 1 → q ≠ f + 2 → E q = D q
theorem fO.rfl {f : Nat} {D : zM} : fO f D D := fun _ _ _ _ => Eq.refl _
theorem fO.trans {f : Nat} {D E F : zM} (h1 : fO f D E) (h2 : fO f E F) : fO f D F := fun q a b c => (h2 q a b c).trans (h1 q a b c)
theorem fO.up {f : Nat} {D E : zM} (h : fO f D E) {q : Nat} (k : Nat) (v : Int32) (hq : q = f ∨ q = f + 1 ∨ q = f + 2) : fO f D (z_up E q k v) := fun t a b c => by
  rw [z_up_ne (by omega)]
  exact h t a b c
theorem fO.ix {f : Nat} {D E : zM} {s : zA} (hf : f = 32 ∨ f = 35) (h : fO f D E) (hX : IX D s) : IX E s := hX.ag (ps := [32, 33, 34, 35, 36, 37]) (ks := []) ⟨fun q _ h2 => h q (fun e => h2 (by subst e; rcases hf with rfl | rfl <;> decide)) (fun e => h2 (by subst e; rcases hf with rfl | rfl <;> decide)) (fun e => h2 (by subst e; rcases hf with rfl | rfl <;> decide)), fun k _ => by rw [h 0 (by omega) (by omega) (by omega)]⟩ (by decide) (by decide)
def AX (D : zM) (r : Nat) (ar : Nat → Option Nat) : Prop := (∀ p, p < 10 → D r p = oI (ar p)) ∧ ∀ p q, p < 10 → ar p = some q → q < 10
def FX (f : Nat) (E D : zM) (m T : Nat) (r : Nat × List Nat × Nat) (p : Nat) : Prop := E f 4 = nI r.1 ∧ E f 2 = nI (m + r.2.1.length) ∧ E f 3 = nI (T + r.2.2) ∧ (∀ i, i < m → E (f + 1) i = D (f + 1) i) ∧ ∀ i, i ≤ r.2.1.length → E (f + 1) (m + i) = nI ((p :: r.2.1).getD i 0)
def CM (D : zM) (f : Nat) (V : Nat → Nat → Bool) : Prop := ∀ q, q < 10 → D (f + 2) q = nI (bm (fun a => V a q) 10)
theorem fsh {f : Nat} (hf : f = 32 ∨ f = 35) : z_sh[f]? = some (.inl (1, [some (f + 1), some (f + 2), none, none, none])) ∧ z_sh[f + 1]? = some (.inr (.inl (0, 30))) ∧ z_sh[f + 2]? = some (.inr (.inl (0, 10))) := by
  rcases hf with rfl | rfl <;> exact ⟨rfl, rfl, rfl⟩
theorem neg_nI {e : Nat} (h : e = 1 ∨ e = 2 ∨ e = 3) : ¬ (0 : Int32) ≤ -nI e ∧ - -nI e = nI e := by
  rcases h with rfl | rfl | rfl <;> decide
theorem uX1_go_loop {s : zA} (hs : WF s) {f : Nat} (hf : f = 32 ∨ f = 35) {r : Nat} (hr : z_sh[r]? = some (.inr (.inl (0, 10)))) (hrf : r < 32 ∨ 38 ≤ r) {ar : Nat → Option Nat} {h : Nat} (hh : h < 10) {x2 : Int32} : ∀ (n m T p : Nat) (prev : Option Nat) (V : Nat → Nat → Bool) (o8 : Option Value) (D : zM), IX D s → AX D r ar → D f 4 = 4 → D f 2 = nI m → D f 3 = nI T → CM D f V → (∀ q, prev = some q → q < 10) → m + n = 29 → p < 10 → D (f + 1) m = nI p →
    z_Ok mX1_go 39 [some (.ref f), some (.ref 1), some (.int x2), some (.int (nI h)), some (.ref r), some (.int (nI p)), some (.int (bkI prev)), some (.int (nI (m + 1))), o8] [] D (z_pv (fun E => FX f E D m T (fol s ar h n p prev V) p ∧ fO f D E)) := by
  obtain ⟨hf0, hf1, hf2⟩ := fsh hf
  intro n
  induction n with
  | zero =>
    intro m T p prev V o8 D hX hA h4 h2 h3 hC hpv hm hp hw
    have e1 : 29 < nI (m + 1) := by rw [show (29 : Int32) = nI 29 from rfl, nI_ltI (by omega) (by omega)]; omega
    refine bX1_go_39 hf0 hf1 hf2 hr (fun z => absurd e1 z) (fun _ => ?_) (fun z => absurd e1 z) (fun z => absurd e1 z)
    refine ⟨⟨h4, h2, h3, fun _ _ => rfl, fun i hi => ?_⟩, fun _ _ _ _ => rfl⟩
    have : i = 0 := by simpa [fol] using hi
    subst this
    exact hw
  | succ n ih =>
    intro m T p prev V o8 D hX hA h4 h2 h3 hC hpv hm hp hw
    have e1 : ¬ 29 < nI (m + 1) := by rw [show (29 : Int32) = nI 29 from rfl, nI_ltI (by omega) (by omega)]; omega
    have ep : (nI p).toNatClampNeg = p := nI_clamp (by omega)
    have ih0 : (nI p = nI h) = (p = h) := propext (nI_eq (by omega) (by omega))
    refine bX1_go_39 hf0 hf1 hf2 hr (fun _ _ => vp_in_nI hp (by omega)) (fun z => absurd z e1) (fun _ z => ?_) (fun _ z => ?_)
    · rw [ih0] at z
      rw [ep, hA.1 p hp]
      refine sX1_go_68 (uX1_nextFrom hX hs hp (hA.2 p · hp) hpv) (fun y D1 hy => ?_)
      obtain ⟨rfl, hy⟩ := hy
      cases hnx : nxt s ar p prev with
      | inl e =>
        rw [hnx] at hy
        have he := nxt_end hnx
        have hy' : y = -nI e := hy
        subst hy'
        obtain ⟨n1', n2'⟩ := neg_nI he
        refine bX1_go_71 hf0 hf1 hf2 hr (fun w => absurd w n1') (fun w => absurd w n1') (fun w => absurd w n1') (fun w => absurd w n1') (fun w => absurd w n1') (fun _ => ?_)
        rw [fol_end z hnx, n2']
        refine ⟨⟨by rw [z_up_eq], by rw [z_up_k (by omega)]; exact h2, by rw [z_up_k (by omega)]; exact h3, fun i _ => by rw [z_up_ne (by omega)], fun i hi => ?_⟩, (fO.rfl : fO f D1 D1).up _ _ (by omega)⟩
        have : i = 0 := by simpa using hi
        subst this
        rw [z_up_ne (by omega)]
        exact hw
      | inr q =>
        rw [hnx] at hy
        have hy' : y = nI q := hy
        subst hy'
        have hoa := nxt_go hnx
        have hq := (oa_lt hs hoa).2.1
        have eq0 : (nI q).toNatClampNeg = q := nI_clamp (by omega)
        have es : (nI (m + 1)).toNatClampNeg = m + 1 := nI_clamp (by omega)
        have y0 : (0 : Int32) ≤ nI q := by rw [n0, nI_leI (by omega) (by omega)]; omega
        have hol := hX.2.2.2.2.2.2.2.2 p hp q hq
        have r1 : (z_up (z_up D1 (f + 1) (m + 1) (nI q)) f 2 (nI (m + 1))) f 3 = nI T := by rw [z_up_k (by omega), z_up_ne (by omega)]; exact h3
        have r2 : (z_up (z_up D1 (f + 1) (m + 1) (nI q)) f 2 (nI (m + 1))) (8 + p) q = nI (ol s p q) := by rw [z_up_ne (by omega), z_up_ne (by omega)]; exact hol
        generalize hF : z_up (z_up (z_up D1 (f + 1) (m + 1) (nI q)) f 2 (nI (m + 1))) f 3 (nI (T + ol s p q)) = F
        have r3 : F (f + 2) q = nI (bm (fun a => V a q) 10) := by rw [← hF, z_up_ne (by omega), z_up_ne (by omega), z_up_ne (by omega)]; exact hC q hq
        have hbq := bm_lt (fun a => V a q) 10
        have hand : ∀ b : Nat, b < 2 ^ 10 → (b &&& 2 ^ p) < 2 ^ 31 := fun b hb => Nat.lt_of_le_of_lt Nat.and_le_left (by omega)
        have iv : (nI (bm (fun a => V a q) 10) &&& nI (2 ^ p) = 0) = (V p q = false) := by
          rw [nb_and, n0]
          refine propext (((nI_eq (hand _ hbq) (by omega)).trans (and_pow0 _ _)).trans ?_)
          rw [bm_bit]
          simp [hp]
        have f4 : F f 4 = 4 := by rw [← hF, z_up_k (by omega), z_up_k (by omega), z_up_ne (by omega)]; exact h4
        have f2' : F f 2 = nI (m + 1) := by rw [← hF, z_up_k (by omega), z_up_eq]
        have f3' : F f 3 = nI (T + ol s p q) := by rw [← hF, z_up_eq]
        have fw : ∀ i, i ≤ m → F (f + 1) i = D1 (f + 1) i := fun i hi => by rw [← hF, z_up_ne (by omega), z_up_ne (by omega), z_up_k (by omega)]
        have fw1 : F (f + 1) (m + 1) = nI q := by rw [← hF, z_up_ne (by omega), z_up_ne (by omega), z_up_eq]
        have fof : fO f D1 F := by
          rw [← hF]
          exact ((((fO.rfl : fO f D1 D1).up _ _ (by omega)).up _ _ (by omega)).up _ _ (by omega))
        apply bX1_go_71 hf0 hf1 hf2 hr <;> simp only [y0, es, ep, eq0, r1, r2, nI_add, hF, r3, nb_sh1 p hp, iv, nb_or, true_imp_iff, not_true, false_imp_iff]
        · exact vp_in_nI (by omega) (by omega)
        · exact vp_in_nI hp (by omega)
        · exact vp_in_nI hq (by omega)
        · intro w
          rw [← nI_succ]
          have e3 : bm (fun a => V a q) 10 ||| 2 ^ p = bm (fun a => vup V p q a q) 10 := by
            rw [bm_or _ hp]
            refine bm_congr (fun a _ => ?_)
            unfold vup
            by_cases e : a = p <;> simp [e]
          generalize hG : z_up F (f + 2) q (nI (bm (fun a => V a q) 10 ||| 2 ^ p)) = G
          have foG : fO f D1 G := by rw [← hG]; exact fof.up _ _ (by omega)
          have hXG := foG.ix hf hX
          have gw : G (f + 1) = F (f + 1) := by rw [← hG]; exact z_up_ne (by omega)
          have gf : ∀ k, G f k = F f k := fun k => by rw [← hG, z_up_ne (by omega)]
          have hCG : CM G f (vup V p q) := fun t ht => by
            by_cases e : t = q
            · subst e
              rw [← hG, z_up_eq, e3]
            · rw [← hG, z_up_k e, ← hF, z_up_ne (by omega), z_up_ne (by omega), z_up_ne (by omega), hC t ht]
              refine congrArg nI (bm_congr (fun a _ => ?_))
              unfold vup
              simp [e]
          have hAG : AX G r ar := ⟨fun t ht => by rw [foG r (by omega) (by omega) (by omega)]; exact hA.1 t ht, hA.2⟩
          have := ih (m + 1) (T + ol s p q) q (some p) (vup V p q) (some (.int (nI q))) G hXG hAG (by rw [gf]; exact f4) (by rw [gf]; exact f2') (by rw [gf]; exact f3') hCG (fun t ht => by cases ht; exact hp) (by omega) hq (by rw [gw]; exact fw1)
          refine z_weak this (fun o E hE => ?_)
          cases o with
          | some _ => exact hE.elim
          | none =>
            obtain ⟨⟨b1, b2, b3, b4, b5⟩, b6⟩ := hE
            rw [fol_on z hnx w]
            refine ⟨⟨b1, ?_, ?_, fun i hi => ?_, fun i hi => ?_⟩, foG.trans b6⟩
            · rw [b2]; refine congrArg nI ?_; simp; omega
            · rw [b3]; refine congrArg nI ?_; dsimp only; omega
            · rw [b4 i (by omega), gw, fw i (by omega)]
            · cases i with
              | zero =>
                show E (f + 1) m = nI p
                rw [b4 m (by omega), gw, fw m (by omega)]
                exact hw
              | succ i =>
                have := b5 i (by simpa using hi)
                rw [show m + (i + 1) = m + 1 + i by omega, this]
                rfl
        · intro w
          have hvt : V p q = true := by
            cases h9 : V p q with
            | true => rfl
            | false => exact absurd h9 w
          rw [fol_again z hnx hvt]
          refine ⟨⟨f4, f2', f3', fun i hi => fw i (by omega), fun i hi => ?_⟩, fof⟩
          have : i = 0 ∨ i = 1 := by
            have : i ≤ 1 := by simpa using hi
            omega
          rcases this with rfl | rfl
          · show F (f + 1) m = nI p
            rw [fw m (by omega)]; exact hw
          · exact fw1
    · rw [ih0] at z
      rw [fol_home z]
      refine ⟨⟨by rw [z_up_eq]; rfl, by rw [z_up_k (by omega)]; exact h2, by rw [z_up_k (by omega)]; exact h3, fun i _ => by rw [z_up_ne (by omega)], fun i hi => ?_⟩, (fO.rfl : fO f D D).up _ _ (by omega)⟩
      have : i = 0 := by simpa using hi
      subst this
      rw [z_up_ne (by omega)]
      exact hw
