/-! many -/
theorem nI10 (k : Nat) (hk : k ≤ 10) : (10 ≤ nI k) = (k = 10) := by rw [n10]; exact propext ((nI_leI (by omega) (by omega)).trans (by omega))
theorem uX3_boardedFor {D : zM} {s : zA} (hI : IX D s) (hs : WF s) {n : Nat} (hn : n < 5) : z_Ci mX3_boardedFor [.ref 0, .int (nI n)] D (z_va (nI (bm (fun p => bd s p n) 10)) D) := by
  refine bX3_boardedFor_0 ?_
  have loop : ∀ (m k : Nat), k + m = 10 → z_Ok mX3_boardedFor 4 [some (.ref 0), some (.int (nI n)), some (.int (nI (bm (fun p => bd s p n) k))), some (.int (nI k))] [] D (z_pi (z_va (nI (bm (fun p => bd s p n) 10)) D)) := by
    intro m
    induction m with
    | zero =>
      intro k hk
      have e1 : (10 ≤ nI k) = True := by rw [nI10 k (by omega)]; simp; omega
      apply bX3_boardedFor_4 <;> simp only [e1, not_true, false_imp_iff, true_imp_iff]
      exact ⟨rfl, by rw [show k = 10 by omega]⟩
    | succ m ih =>
      intro k hk
      have e1 : (10 ≤ nI k) = False := by rw [nI10 k (by omega)]; simp; omega
      have e0 : (nI k).toNatClampNeg = k := nI_clamp (by omega)
      have e2 : (nI n).toNatClampNeg = n := nI_clamp (by omega)
      have f4 := hI.2.2.2.2.2.2.1 k (by omega) n hn
      have i4 : (oI (aO (s 6 (5 * k + n))) = -9) = (s 6 (5 * k + n) = 0) := propext (bd_iff hs (by omega))
      have ih' := ih (k + 1) (by omega)
      rw [nI_succ] at ih'
      apply bX3_boardedFor_4 <;> simp only [e1, e0, e2, f4, i4, nb_sh1 k (by omega), nb_or, not_false_eq_true, false_imp_iff, true_imp_iff]
      · exact vp_in_nI hn (by omega)
      · exact vp_in_nI (by omega) (by omega)
      · intro c
        rw [bm_no (by simp [bd, c])] at ih'
        exact ih'
      · intro c
        rw [bm_yes (f := fun p => bd s p n) (by simp [bd, c])]
        exact ih'
  exact loop 10 0 (by omega)
theorem uX3_countBoards {D : zM} {s : zA} (hI : IX D s) (hs : WF s) : z_Ci mX3_countBoards [.ref 0] D (z_va (nI (sm (fun n => ct (fun p => bd s p n) 10) (s 0 1))) D) := by
  refine bX3_countBoards_0 ?_
  have hw := hs.2.1
  have loop : ∀ (m k : Nat), k + m = s 0 1 → z_Ok mX3_countBoards 4 [some (.ref 0), some (.int (nI (sm (fun n => ct (fun p => bd s p n) 10) k))), some (.int (nI k))] [] D (z_pi (z_va (nI (sm (fun n => ct (fun p => bd s p n) 10) (s 0 1))) D)) := by
    intro m
    induction m with
    | zero =>
      intro k hk
      have e1 : (D 0 7 ≤ nI k) = True := by rw [hI.2.1, nI_leI (by omega) (by omega)]; simp; omega
      apply bX3_countBoards_4 <;> simp only [e1, not_true, false_imp_iff, true_imp_iff]
      exact ⟨rfl, by rw [show k = s 0 1 by omega]⟩
    | succ m ih =>
      intro k hk
      have e1 : (D 0 7 ≤ nI k) = False := by rw [hI.2.1, nI_leI (by omega) (by omega)]; simp; omega
      have ih' := ih (k + 1) (by omega)
      rw [nI_succ] at ih'
      apply bX3_countBoards_4 <;> simp only [e1, not_false_eq_true, false_imp_iff, true_imp_iff]
      refine sX3_countBoards_15 (uX3_boardedFor hI hs (show k < 5 by omega)) (fun r D1 hr => ?_)
      obtain ⟨rfl, rfl⟩ := hr
      refine bX3_countBoards_18 ?_
      rw [z_bc_all _ (bm_lt _ 10), ct_bm, nI_add]
      exact ih'
  exact loop (s 0 1) 0 (by omega)
def anb (s : zA) : Nat → Nat → Bool
  | 0, _ => false
  | n + 1, p => anb s n p || bd s p n
theorem uX3_boardedPlaces {D : zM} {s : zA} (hI : IX D s) (hs : WF s) : z_Ci mX3_boardedPlaces [.ref 0] D (z_va (nI (bm (anb s (s 0 1)) 10)) D) := by
  refine bX3_boardedPlaces_0 ?_
  have hw := hs.2.1
  have loop : ∀ (m k : Nat), k + m = s 0 1 → z_Ok mX3_boardedPlaces 4 [some (.ref 0), some (.int (nI (bm (anb s k) 10))), some (.int (nI k))] [] D (z_pi (z_va (nI (bm (anb s (s 0 1)) 10)) D)) := by
    intro m
    induction m with
    | zero =>
      intro k hk
      have e1 : (D 0 7 ≤ nI k) = True := by rw [hI.2.1, nI_leI (by omega) (by omega)]; simp; omega
      apply bX3_boardedPlaces_4 <;> simp only [e1, not_true, false_imp_iff, true_imp_iff]
      exact ⟨rfl, by rw [show k = s 0 1 by omega]⟩
    | succ m ih =>
      intro k hk
      have e1 : (D 0 7 ≤ nI k) = False := by rw [hI.2.1, nI_leI (by omega) (by omega)]; simp; omega
      have ih' := ih (k + 1) (by omega)
      rw [nI_succ] at ih'
      apply bX3_boardedPlaces_4 <;> simp only [e1, not_false_eq_true, false_imp_iff, true_imp_iff]
      refine sX3_boardedPlaces_15 (uX3_boardedFor hI hs (show k < 5 by omega)) (fun r D1 hr => ?_)
      obtain ⟨rfl, rfl⟩ := hr
      refine bX3_boardedPlaces_18 ?_
      have e2 : bm (anb s k) 10 ||| bm (fun p => bd s p k) 10 = bm (anb s (k + 1)) 10 := by
        apply Nat.eq_of_testBit_eq
        intro i
        rw [Nat.testBit_or, bm_bit, bm_bit, bm_bit]
        show (decide (i < 10) && anb s k i || decide (i < 10) && bd s i k) = (decide (i < 10) && (anb s k i || bd s i k))
        cases decide (i < 10) <;> simp
      rw [nb_or, e2]
      exact ih'
  have := loop (s 0 1) 0 (by omega)
  exact this
theorem abd0 (s : zA) : sm (abd s 0) 10 = sm (fun n => ct (fun p => bd s p n) 10) (s 0 1) := by
  show _ = sm (fun n => sm (fun p => if bd s p n then 1 else 0) 10) (s 0 1)
  rw [sm_swap (fun n p => if bd s p n then 1 else 0) 10 (s 0 1)]
  refine sm_congr (fun p _ => ?_)
  rw [abd, if_neg (by omega)]
  rfl
theorem anb_sm (s : zA) (p : Nat) : ∀ n, anb s n p = decide (0 < sm (bdn s p) n)
  | 0 => by simp [anb, sm]
  | n + 1 => by
    show (anb s n p || bd s p n) = decide (0 < sm (bdn s p) n + bdn s p n)
    rw [anb_sm s p n]
    unfold bdn
    cases bd s p n with
    | true => simp
    | false => simp
theorem abd1 (s : zA) : sm (abd s 1) 10 = ct (anb s (s 0 1)) 10 := by
  refine sm_congr (fun p _ => ?_)
  rw [anb_sm, abd]
  by_cases h : 1 < sm (bdn s p) (s 0 1)
  · rw [if_pos ⟨by omega, h⟩, if_pos (by simp; omega)]
  · rw [if_neg (by omega)]
    by_cases h0 : 0 < sm (bdn s p) (s 0 1)
    · rw [if_pos (by simpa using h0)]; omega
    · rw [if_neg (by simpa using h0)]; omega
set_option maxRecDepth 20000 in
theorem J_many {D : zM} {s : zA} (h : zI D s) (x : Int32) : z_Ci mX3_many [.ref 0, .int x] D (zJ mX4_many [.ref 46, .int x]) := by
  obtain ⟨hs, hM, hX⟩ := id h
  have dd : ∀ {a b : Int32}, x = a → x = b → a ≠ b → False := fun h1 h2 h3 => h3 (h1.symm.trans h2)
  refine bX3_many_0 (fun a => ?_) (fun a0 a => ?_) (fun a0 a1 a => ?_) (fun a0 a1 a2 a => ?_) (fun a0 a1 a2 a3 a => ?_) (fun a0 a1 a2 a3 a4 a => ?_) (fun a0 a1 a2 a3 a4 a5 a => ?_) (fun a0 a1 a2 a3 a4 a5 a6 => ?_)
  · exact bX4_many_0 (fun _ => ⟨by rw [hM.1, hX.1], s, h⟩) (fun q => absurd a q) (fun q => absurd a q) (fun q => absurd a q) (fun q => absurd a q) (fun q => absurd a q) (fun q => absurd a q) (fun q => absurd a q)
  · refine sX3_many_56 (uX0_countOpen hX hs) (fun r D1 hr => bX3_many_59 ?_)
    obtain ⟨rfl, rfl⟩ := hr
    exact bX4_many_0 (fun q => absurd q a0) (fun _ _ => sX4_many_50 (uX4_manyOpen hM hs) (fun r D1 hr => bX4_many_53 ⟨hr.2, s, by rw [hr.1]; exact h⟩)) (fun _ q => absurd a q) (fun _ q => absurd a q) (fun _ q => absurd a q) (fun _ q => absurd a q) (fun _ q => absurd a q) (fun _ q => absurd a q)
  · exact bX4_many_0 (fun q => absurd q a0) (fun _ q => absurd q a1) (fun _ _ _ => ⟨by rw [hM.2.1, hX.2.1], s, h⟩) (fun _ _ q => absurd a q) (fun _ _ q => absurd a q) (fun _ _ q => absurd a q) (fun _ _ q => absurd a q) (fun _ _ q => absurd a q)
  · refine bX4_many_0 (fun q => absurd q a0) (fun _ q => absurd q a1) (fun _ _ q => absurd q a2) (fun _ _ _ _ => ?_) (fun _ _ _ q => absurd a q) (fun _ _ _ q => absurd a q) (fun _ _ _ q => absurd a q) (fun _ _ _ q => absurd a q)
    rw [hM.2.2.1, hX.2.2.1, z_bc_all _ hs.2.2.1]
    exact sX4_many_63 (uX4_manyOf hs.2.2.1) (fun r D1 hr => bX4_many_66 ⟨hr.2, s, by rw [hr.1]; exact h⟩)
  · refine sX3_many_74 (uX3_countBoards hX hs) (fun r D1 hr => bX3_many_77 ?_)
    obtain ⟨rfl, rfl⟩ := hr
    refine bX4_many_0 (fun q => absurd q a0) (fun _ q => absurd q a1) (fun _ _ q => absurd q a2) (fun _ _ _ q => absurd q a3) (fun _ _ _ _ _ => ?_) (fun _ _ _ _ q => absurd a q) (fun _ _ _ _ q => absurd a q) (fun _ _ _ _ q => absurd a q)
    exact sX4_many_69 (uX4_allBoards hM hs (x := 0) (by omega)) (fun r D1 hr => bX4_many_72 ⟨by rw [hr.2, abd0], s, by rw [hr.1]; exact h⟩)
  · refine sX3_many_79 (uX3_boardedPlaces hX hs) (fun r D1 hr => bX3_many_82 ?_)
    obtain ⟨rfl, rfl⟩ := hr
    refine bX4_many_0 (fun q => absurd q a0) (fun _ q => absurd q a1) (fun _ _ q => absurd q a2) (fun _ _ _ q => absurd q a3) (fun _ _ _ _ q => absurd q a4) (fun _ _ _ _ _ _ => ?_) (fun _ _ _ _ _ q => absurd a q) (fun _ _ _ _ _ q => absurd a q)
    rw [z_bc_all _ (bm_lt _ 10), ct_bm]
    exact sX4_many_75 (uX4_allBoards hM hs (x := 1) (by omega)) (fun r D1 hr => bX4_many_78 ⟨by rw [hr.2, abd1], s, by rw [hr.1]; exact h⟩)
  · exact bX4_many_0 (fun q => absurd q a0) (fun _ q => absurd q a1) (fun _ _ q => absurd q a2) (fun _ _ _ q => absurd q a3) (fun _ _ _ _ q => absurd q a4) (fun _ _ _ _ _ q => absurd q a5) (fun _ _ _ _ _ _ _ => ⟨by rw [hM.2.2.2.1, hX.2.2.2.1], s, h⟩) (fun _ _ _ _ _ _ q => absurd a q)
  · exact bX4_many_0 (fun q => absurd q a0) (fun _ q => absurd q a1) (fun _ _ q => absurd q a2) (fun _ _ _ q => absurd q a3) (fun _ _ _ _ q => absurd q a4) (fun _ _ _ _ _ q => absurd q a5) (fun _ _ _ _ _ _ q => absurd q a6) (fun _ _ _ _ _ _ _ => ⟨rfl, s, h⟩)
theorem uX4_openBetween {D : zM} {s : zA} (hI : IM D s) (hs : WF s) {a b : Nat} (ha : a < 10) (hb : b < 10) : z_Ci mX4_openBetween [.ref 46, .int (nI a), .int (nI b)] D (z_va (oI (obt s a b)) D) := by
  refine bX4_openBetween_0 (sX4_openBetween_3 (uX4_walkBetween hI hs ha hb) (fun r D1 hr => ?_))
  obtain ⟨rfl, rfl⟩ := hr
  have h14 := hs.1
  cases hk : wbt s a b with
  | none =>
    refine bX4_openBetween_6 (fun q => absurd rfl q) (fun _ => ?_) (fun q => absurd rfl q) (fun q => absurd rfl q)
    exact ⟨rfl, by unfold obt; rw [hk]; rfl⟩
  | some k =>
    have hlt := wbt_lt hs hk
    have e9 : ¬ nI k = -9 := nI_ne9 (by omega)
    have e0 : (nI k).toNatClampNeg = k := nI_clamp (by omega)
    obtain ⟨-, -, -, f4⟩ := hI.2.2.2.2.1 k hlt
    obtain ⟨-, -, -, -, g5, -⟩ := hs.2.2.2.2.1 k hlt
    have i4 : D1 50 (nI k).toNatClampNeg = 0 ↔ s 4 k = 0 := by rw [e0, f4, n0]; exact nI_eq (by omega) (by omega)
    refine bX4_openBetween_6 (fun _ => vp_in_nI (by omega) (by omega)) (fun q => absurd q e9) (fun _ q => ?_) (fun _ q => ?_)
    · refine ⟨rfl, ?_⟩
      unfold obt
      rw [hk]
      have := i4.mp q
      simp [this, oI]
    · refine ⟨rfl, ?_⟩
      unfold obt
      rw [hk]
      have : s 4 k = 1 := by have : ¬ s 4 k = 0 := fun z => q (i4.mpr z); omega
      simp [this, oI]
