/-! from; many -/
def oan (s : zA) (p : Nat) : Nat → Nat → Bool
  | 0, _ => false
  | k + 1, q => oan s p k q || (mt s p q k && s 4 k == 1)
theorem oan_succ (s : zA) (p k q : Nat) : oan s p (k + 1) q = (oan s p k q || (mt s p q k && s 4 k == 1)) := rfl
theorem oan_iff {s : zA} {p q : Nat} : ∀ {k : Nat}, oan s p k q = true ↔ ∃ j, j < k ∧ mt s p q j = true ∧ s 4 j = 1
  | 0 => by simp [oan]
  | k + 1 => by
    rw [oan_succ, Bool.or_eq_true, oan_iff, Bool.and_eq_true, beq_iff_eq]
    constructor
    · rintro (⟨j, h1, h2⟩ | h)
      · exact ⟨j, by omega, h2⟩
      · exact ⟨k, by omega, h⟩
    · rintro ⟨j, h1, h2⟩
      by_cases e : j = k
      · subst e; exact Or.inr h2
      · exact Or.inl ⟨j, by omega, h2⟩
theorem oan_oa {s : zA} (hs : WF s) (p q : Nat) : oan s p (s 0 0) q = oa s p q := by
  rw [Bool.eq_iff_iff, oan_iff, oa_iff hs]
theorem z_or0 (x : Int32) : x ||| 0 = x := by
  apply Int32.toBitVec_inj.1
  show x.toBitVec ||| 0#32 = x.toBitVec
  exact BitVec.or_zero
theorem uX4_from_loop {D : zM} {s : zA} (hI : IM D s) (hs : WF s) {p : Nat} (hp : p < 10) : ∀ (n k : Nat), k + n = s 0 0 → z_Ok mX4_from 13 [some (.ref 46), some (.int (nI p)), some (.int (nI (bm (oan s p k) 10))), some (.int (nI k))] [] D (z_pi (z_va (nI (bm (oa s p) 10)) D)) := by
  intro n
  have hw := hs.1
  induction n with
  | zero =>
    intro k hk
    have e1 : (D 46 0 ≤ nI k) = True := by rw [hI.1, nI_leI (by omega) (by omega)]; simp; omega
    apply bX4_from_13 <;> simp only [e1, not_true, false_imp_iff, true_imp_iff]
    refine ⟨rfl, ?_⟩
    rw [show k = s 0 0 by omega]
    exact congrArg nI (bm_congr (fun q _ => oan_oa hs p q))
  | succ n ih =>
    intro k hk
    have e1 : (D 46 0 ≤ nI k) = False := by rw [hI.1, nI_leI (by omega) (by omega)]; simp; omega
    have e0 : (nI k).toNatClampNeg = k := nI_clamp (by omega)
    obtain ⟨f1, f2, f3, f4⟩ := hI.2.2.2.2.1 k (by omega)
    obtain ⟨g1, g2, g3, g4, g5, -⟩ := hs.2.2.2.2.1 k (by omega)
    have i1 : (nI (s 1 k) = nI p) = (s 1 k = p) := propext (nI_eq (by omega) (by omega))
    have i2 : (nI (s 2 k) = nI p) = (s 2 k = p) := propext (nI_eq (by omega) (by omega))
    have i4 : (nI (s 4 k) = 0) = (s 4 k = 0) := by rw [n0]; exact propext (nI_eq (by omega) (by omega))
    have ih' := ih (k + 1) (by omega)
    rw [nI_succ] at ih'
    have stay : (∀ q, q < 10 → (mt s p q k && s 4 k == 1) = false) → bm (oan s p (k + 1)) 10 = bm (oan s p k) 10 := fun hh => bm_congr (fun q hq => by rw [oan_succ, hh q hq]; simp)
    have more : ∀ t, t < 10 → (∀ q, q < 10 → (mt s p q k && s 4 k == 1) = decide (q = t)) → bm (oan s p (k + 1)) 10 = bm (oan s p k) 10 ||| 2 ^ t := fun t ht hh => by
      rw [bm_or _ ht]
      refine bm_congr (fun q hq => ?_)
      rw [oan_succ, hh q hq]
      by_cases e : q = t <;> simp [e]
    apply bX4_from_13 <;> simp only [e1, e0, f1, f2, f4, i1, i2, i4, z_or0, nb_sh1 (s 1 k) (by omega), nb_sh1 (s 2 k) g2, nb_or, not_false_eq_true, false_imp_iff, true_imp_iff]
    · exact vp_in_nI (by omega) (by omega)
    · intro c
      rw [← stay (fun q _ => by simp [c])]
      exact ih'
    · intro c1 c2 c3
      rw [← stay (fun q _ => by simp [mt]; omega)]
      exact ih'
    · intro c1 c2 c3
      rw [← more (s 1 k) (by omega) (fun q _ => by
        by_cases e : q = s 1 k
        · subst e; simp [mt, c3]; omega
        · have : ¬ s 1 k = q := fun z => e z.symm
          simp [mt, c2, e, this])]
      exact ih'
    · intro c1 c2 c3
      rw [← more (s 2 k) g2 (fun q _ => by
        by_cases e : q = s 2 k
        · subst e; simp [mt, c2]; omega
        · have : ¬ s 2 k = q := fun z => e z.symm
          simp [mt, c3, e, this])]
      exact ih'
    · intro c1 c2 c3
      omega
set_option maxRecDepth 20000 in
theorem J_from {D : zM} {s : zA} (h : zI D s) (x : Int32) : z_Ci mX3_from [.ref 0, .int x] D (zJ mX4_from [.ref 46, .int x]) := by
  obtain ⟨hs, hM, hX⟩ := id h
  refine bX3_from_0 (fun a => ?_) (fun a => bX4_from_0 (fun q => absurd q a) (fun _ => ⟨rfl, s, h⟩))
  refine bX4_from_0 (fun _ => ?_) (fun q => absurd a q)
  obtain ⟨p, hp, rfl, hp2⟩ := z_inN a
  rw [nI_clamp hp2, hX.2.2.2.2.2.2.2.1 p hp]
  have := uX4_from_loop hM hs hp (s 0 0) 0 (by omega)
  rw [show bm (oan s p 0) 10 = 0 from rfl] at this
  refine z_weak this (fun r D2 hr => ?_)
  cases r with
  | none => exact hr.elim
  | some v =>
    obtain ⟨rfl, rfl⟩ := hr
    exact ⟨rfl, s, h⟩
/-- the weakening of a contract whose method only asks -/
theorem z_ask {Y : zY} {as : List Value} {D : zM} {v : Int32} {Q : Int32 → zM → Prop} (h : z_Ci Y as D (z_va v D)) (hQ : Q v D) : z_Ci Y as D Q := by
  refine z_weak h (fun r D2 hr => ?_)
  cases r with
  | none => exact hr.elim
  | some w =>
    obtain ⟨rfl, rfl⟩ := hr
    exact hQ
theorem bd_iff {s : zA} (hs : WF s) {x : Nat} (hx : x < 50) : oI (aO (s 6 x)) = -9 ↔ s 6 x = 0 := by
  have := hs.2.2.2.2.2.2 x hx
  rw [oI_ne9 (fun k hk => by have := aO_lt hk; omega)]
  cases s 6 x <;> simp [aO]
def opn (s : zA) (k : Nat) : Nat := if s 4 k = 1 then 1 else 0
theorem uX4_manyOpen {D : zM} {s : zA} (hI : IM D s) (hs : WF s) : z_Ci mX4_manyOpen [.ref 46] D (z_va (nI (sm (opn s) (s 0 0))) D) := by
  refine bX4_manyOpen_0 ?_
  have hw := hs.1
  have loop : ∀ (n k : Nat), k + n = s 0 0 → z_Ok mX4_manyOpen 4 [some (.ref 46), some (.int (nI (sm (opn s) k))), some (.int (nI k))] [] D (z_pi (z_va (nI (sm (opn s) (s 0 0))) D)) := by
    intro n
    induction n with
    | zero =>
      intro k hk
      have e1 : (D 46 0 ≤ nI k) = True := by rw [hI.1, nI_leI (by omega) (by omega)]; simp; omega
      apply bX4_manyOpen_4 <;> simp only [e1, not_true, false_imp_iff, true_imp_iff]
      exact ⟨rfl, by rw [show k = s 0 0 by omega]⟩
    | succ n ih =>
      intro k hk
      have e1 : (D 46 0 ≤ nI k) = False := by rw [hI.1, nI_leI (by omega) (by omega)]; simp; omega
      have e0 : (nI k).toNatClampNeg = k := nI_clamp (by omega)
      obtain ⟨f1, f2, f3, f4⟩ := hI.2.2.2.2.1 k (by omega)
      obtain ⟨g1, g2, g3, g4, g5, -⟩ := hs.2.2.2.2.1 k (by omega)
      have i4 : (nI (s 4 k) = 0) = (s 4 k = 0) := by rw [n0]; exact propext (nI_eq (by omega) (by omega))
      have ih' := ih (k + 1) (by omega)
      rw [nI_succ] at ih'
      have e3 : sm (opn s) (k + 1) = sm (opn s) k + opn s k := rfl
      apply bX4_manyOpen_4 <;> simp only [e1, e0, f4, i4, not_false_eq_true, false_imp_iff, true_imp_iff]
      · exact vp_in_nI (by omega) (by omega)
      · intro c
        rw [n0, nI_add, show sm (opn s) k + 0 = sm (opn s) (k + 1) by rw [e3, opn, if_neg (by omega)]]
        exact ih'
      · intro c
        rw [← nI_succ, show sm (opn s) k + 1 = sm (opn s) (k + 1) by rw [e3, opn, if_pos (by omega)]]
        exact ih'
  exact loop (s 0 0) 0 (by omega)
theorem uX0_countOpen {D : zM} {s : zA} (hI : IX D s) (hs : WF s) : z_Ci mX0_countOpen [.ref 1] D (z_va (nI (sm (opn s) (s 0 0))) D) := by
  refine bX0_countOpen_0 ?_
  have hw := hs.1
  have loop : ∀ (n k : Nat), k + n = s 0 0 → z_Ok mX0_countOpen 4 [some (.ref 1), some (.int (nI (sm (opn s) k))), some (.int (nI k))] [] D (z_pi (z_va (nI (sm (opn s) (s 0 0))) D)) := by
    intro n
    induction n with
    | zero =>
      intro k hk
      have e1 : (D 1 6 ≤ nI k) = True := by rw [hI.1, nI_leI (by omega) (by omega)]; simp; omega
      apply bX0_countOpen_4 <;> simp only [e1, not_true, false_imp_iff, true_imp_iff]
      exact ⟨rfl, by rw [show k = s 0 0 by omega]⟩
    | succ n ih =>
      intro k hk
      have e1 : (D 1 6 ≤ nI k) = False := by rw [hI.1, nI_leI (by omega) (by omega)]; simp; omega
      have e0 : (nI k).toNatClampNeg = k := nI_clamp (by omega)
      obtain ⟨f1, f2, f3, f4⟩ := hI.2.2.2.2.1 k (by omega)
      obtain ⟨g1, g2, g3, g4, g5, -⟩ := hs.2.2.2.2.1 k (by omega)
      have i4 : (nI (s 4 k) = 0) = (s 4 k = 0) := by rw [n0]; exact propext (nI_eq (by omega) (by omega))
      have ih' := ih (k + 1) (by omega)
      rw [nI_succ] at ih'
      have e3 : sm (opn s) (k + 1) = sm (opn s) k + opn s k := rfl
      apply bX0_countOpen_4 <;> simp only [e1, e0, f4, i4, not_false_eq_true, false_imp_iff, true_imp_iff]
      · exact vp_in_nI (by omega) (by omega)
      · intro c
        rw [show sm (opn s) (k + 1) = sm (opn s) k by rw [e3, opn, if_neg (by omega), Nat.add_zero]] at ih'
        exact ih'
      · intro c
        rw [← nI_succ (sm (opn s) k), show sm (opn s) k + 1 = sm (opn s) (k + 1) by rw [e3, opn, if_pos (by omega)]]
        exact ih'
  exact loop (s 0 0) 0 (by omega)
def bd (s : zA) (p n : Nat) : Bool := decide (s 6 (5 * p + n) ≠ 0)
def bdn (s : zA) (p n : Nat) : Nat := if bd s p n then 1 else 0
theorem uX4_manyBoards {D : zM} {s : zA} (hI : IM D s) (hs : WF s) {p : Nat} (hp : p < 10) : z_Ci mX4_manyBoards [.ref 46, .int (nI p)] D (z_va (nI (sm (bdn s p) (s 0 1))) D) := by
  refine bX4_manyBoards_0 ?_
  have hw := hs.2.1
  have loop : ∀ (n k : Nat), k + n = s 0 1 → z_Ok mX4_manyBoards 4 [some (.ref 46), some (.int (nI p)), some (.int (nI (sm (bdn s p) k))), some (.int (nI k))] [] D (z_pi (z_va (nI (sm (bdn s p) (s 0 1))) D)) := by
    intro n
    induction n with
    | zero =>
      intro k hk
      have e1 : (D 46 5 ≤ nI k) = True := by rw [hI.2.1, nI_leI (by omega) (by omega)]; simp; omega
      apply bX4_manyBoards_4 <;> simp only [e1, not_true, false_imp_iff, true_imp_iff]
      exact ⟨rfl, by rw [show k = s 0 1 by omega]⟩
    | succ n ih =>
      intro k hk
      have e1 : (D 46 5 ≤ nI k) = False := by rw [hI.2.1, nI_leI (by omega) (by omega)]; simp; omega
      have e0 : (nI (5 * p + k)).toNatClampNeg = 5 * p + k := nI_clamp (by omega)
      have f4 := hI.2.2.2.2.2.2 (5 * p + k) (by omega)
      have i4 : (oI (aO (s 6 (5 * p + k))) = -9) = (s 6 (5 * p + k) = 0) := propext (bd_iff hs (by omega))
      have ih' := ih (k + 1) (by omega)
      rw [nI_succ] at ih'
      have e3 : sm (bdn s p) (k + 1) = sm (bdn s p) k + bdn s p k := rfl
      apply bX4_manyBoards_4 <;> simp only [e1, z_5pn, e0, f4, i4, not_false_eq_true, false_imp_iff, true_imp_iff]
      · exact vp_in_nI (by omega) (by omega)
      · intro c
        rw [n0, nI_add, show sm (bdn s p) k + 0 = sm (bdn s p) (k + 1) by rw [e3, bdn, bd]; simp [c]]
        exact ih'
      · intro c
        rw [← nI_succ (sm (bdn s p) k), show sm (bdn s p) k + 1 = sm (bdn s p) (k + 1) by rw [e3, bdn, bd]; simp [c]]
        exact ih'
  exact loop (s 0 1) 0 (by omega)
def abd (s : zA) (x p : Nat) : Nat := if x ≠ 0 ∧ 1 < sm (bdn s p) (s 0 1) then 1 else sm (bdn s p) (s 0 1)
theorem bdn_le (s : zA) (p n : Nat) : sm (bdn s p) n ≤ n := by
  have := sm_le (f := bdn s p) (b := 1) (n := n) (fun i _ => by unfold bdn; split <;> omega)
  omega
theorem uX4_allBoards {D : zM} {s : zA} (hI : IM D s) (hs : WF s) {x : Nat} (hx : x ≤ 1) : z_Ci mX4_allBoards [.ref 46, .int (nI x)] D (z_va (nI (sm (abd s x) 10)) D) := by
  refine bX4_allBoards_0 ?_
  have hw := hs.2.1
  have loop : ∀ (n k : Nat) (o4 : Option Value), k + n = 10 → z_Ok mX4_allBoards 4 [some (.ref 46), some (.int (nI x)), some (.int (nI (sm (abd s x) k))), some (.int (nI k)), o4] [] D (z_pi (z_va (nI (sm (abd s x) 10)) D)) := by
    intro n
    induction n with
    | zero =>
      intro k o4 hk
      have e1 : (10 ≤ nI k) = True := by rw [n10, nI_leI (by omega) (by omega)]; simp; omega
      apply bX4_allBoards_4 <;> simp only [e1, not_true, false_imp_iff, true_imp_iff]
      exact ⟨rfl, by rw [show k = 10 by omega]⟩
    | succ n ih =>
      intro k o4 hk
      have e1 : (10 ≤ nI k) = False := by rw [n10, nI_leI (by omega) (by omega)]; simp; omega
      have hb := bdn_le s k (s 0 1)
      have e3 : sm (abd s x) (k + 1) = sm (abd s x) k + abd s x k := rfl
      have i0 : (nI x = 0) = (x = 0) := by rw [n0]; exact propext (nI_eq (by omega) (by omega))
      have i1 : (nI (sm (bdn s k) (s 0 1)) ≤ 1) = (sm (bdn s k) (s 0 1) ≤ 1) := by rw [n1]; exact propext (nI_leI (by omega) (by omega))
      apply bX4_allBoards_4 <;> simp only [e1, not_false_eq_true, false_imp_iff, true_imp_iff]
      refine sX4_allBoards_12 (uX4_manyBoards hI hs (show k < 10 by omega)) (fun r D1 hr => ?_)
      obtain ⟨rfl, rfl⟩ := hr
      have ih' := fun o => ih (k + 1) o (by omega)
      rw [nI_succ] at ih'
      apply bX4_allBoards_15 <;> simp only [i0, i1, nI_add]
      · intro c
        rw [show sm (abd s x) k + sm (bdn s k) (s 0 1) = sm (abd s x) (k + 1) by rw [e3, abd, if_neg (by omega)]]
        exact ih' _
      · intro c c2
        rw [show sm (abd s x) k + sm (bdn s k) (s 0 1) = sm (abd s x) (k + 1) by rw [e3, abd, if_neg (by omega)]]
        exact ih' _
      · intro c c2
        rw [← nI_succ (sm (abd s x) k), show sm (abd s x) k + 1 = sm (abd s x) (k + 1) by rw [e3, abd, if_pos (by omega)]]
        exact ih' _
  exact loop 10 0 none (by omega)
