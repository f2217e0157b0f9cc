/-! ONE WHO FOLLOWS, the reference -/
def AR (D : zM) (ar : Nat → Option Nat) : Prop := (∀ p, p < 10 → D 54 p = oI (ar p)) ∧ ∀ p q, p < 10 → ar p = some q → q < 10
def arN (s : zA) (n : Nat) : Nat → Option Nat := fun p => aO (s 6 (5 * p + n))
theorem arN_lt {s : zA} (hs : WF s) {n : Nat} (hn : n < 5) : ∀ p q, p < 10 → arN s n p = some q → q < 10 := fun p q hp h => by
  have h1 := aO_lt h
  have h2 := hs.2.2.2.2.2.2 (5 * p + n) (by omega)
  omega
theorem uX4_laysArrows {D : zM} {s : zA} (hI : IM D s) (hs : WF s) {n : Nat} (hn : n < 5) : z_Cv mX4_laysArrows [.ref 46, .int (nI n)] D (fun E => AR E (arN s n) ∧ z_ag 46 [54] [] D E) := by
  refine bX4_laysArrows_0 ?_
  have loop : ∀ (m p : Nat) (E : zM), p + m = 10 → (∀ q, q < p → E 54 q = oI (arN s n q)) → z_ag 46 [54] [] D E → z_Ok mX4_laysArrows 2 [some (.ref 46), some (.int (nI n)), some (.int (nI p))] [] E (z_pv (fun E => AR E (arN s n) ∧ z_ag 46 [54] [] D E)) := by
    intro m
    induction m with
    | zero =>
      intro p E hp hE hag
      have e1 : (10 ≤ nI p) = True := by rw [nI10 p (by omega)]; simp; omega
      apply bX4_laysArrows_2 <;> simp only [e1, not_true, false_imp_iff, true_imp_iff]
      exact ⟨⟨fun q hq => hE q (by omega), arN_lt hs hn⟩, hag⟩
    | succ m ih =>
      intro p E hp hE hag
      have e1 : (10 ≤ nI p) = False := by rw [nI10 p (by omega)]; simp; omega
      have e0 : (nI p).toNatClampNeg = p := nI_clamp (by omega)
      have e5 : (nI (5 * p + n)).toNatClampNeg = 5 * p + n := nI_clamp (by omega)
      have ih' := fun E => ih (p + 1) E (by omega)
      rw [nI_succ] at ih'
      have e52 : E 52 (5 * p + n) = oI (arN s n p) := by rw [hag.1 52 (by omega) (by decide)]; exact hI.2.2.2.2.2.2 _ (by omega)
      apply bX4_laysArrows_2 <;> simp only [e1, e0, z_5pn, e5, e52, not_false_eq_true, false_imp_iff, true_imp_iff]
      · exact vp_in_nI (by omega) (by omega)
      · exact vp_in_nI (by omega) (by omega)
      · refine ih' _ (fun q hq => ?_) (hag.up _ _ (by decide) (by decide))
        by_cases e : q = p
        · rw [e, z_up_eq]
        · rw [z_up_k e]; exact hE q (by omega)
  exact loop 10 0 D (by omega) (fun q hq => by omega) z_ag.rfl
def tc (s : zA) (p k : Nat) : Bool := decide (s 4 k = 1) && (decide (s 1 k = p) || decide (s 2 k = p))
theorem uX4_touches {D : zM} {s : zA} (hI : IM D s) (hs : WF s) {p k : Nat} (hp : p < 10) (hk : k < s 0 0) : z_Ci mX4_touches [.ref 46, .int (nI k), .int (nI p)] D (z_va (bI (tc s p k)) D) := by
  have h14 := hs.1
  have e0 : (nI k).toNatClampNeg = k := nI_clamp (by omega)
  obtain ⟨f1, f2, f3, f4⟩ := hI.2.2.2.2.1 k hk
  obtain ⟨g1, g2, g3, g4, g5, -⟩ := hs.2.2.2.2.1 k hk
  have i1 : (nI (s 1 k) = nI p) = (s 1 k = p) := propext (nI_eq (by omega) (by omega))
  have i2 : (nI (s 2 k) = nI p) = (s 2 k = p) := propext (nI_eq (by omega) (by omega))
  have i4 : (nI (s 4 k) = 0) = (s 4 k = 0) := by rw [n0]; exact propext (nI_eq (by omega) (by omega))
  apply bX4_touches_0 <;> try simp only [e0, f1, f2, f4, i1, i2, i4]
  · exact vp_in_nI (by omega) (by omega)
  · intro c
    exact ⟨rfl, by simp [tc, c, bI]⟩
  · intro c1 c2
    have : s 4 k = 1 := by omega
    exact ⟨rfl, by simp [tc, this, c2, bI]⟩
  · intro c1 c2 c3
    exact ⟨rfl, by simp [tc, c2, c3, bI]⟩
  · intro c1 c2 c3
    have : s 4 k = 1 := by omega
    exact ⟨rfl, by simp [tc, this, c3, bI]⟩
def cw (s : zA) (p : Nat) (ex : Option Nat) (k : Nat) : Bool := decide (ex ≠ some k) && tc s p k
def owP (s : zA) (p : Nat) (ex : Option Nat) (r : Int32) : Prop := (r = -9 ∧ ∀ k, k < s 0 0 → cw s p ex k = false) ∨ (∃ k, k < s 0 0 ∧ r = nI k ∧ cw s p ex k = true ∧ ∀ j, j < s 0 0 → cw s p ex j = true → j = k) ∨ (r = -1 ∧ ∃ j k, j < s 0 0 ∧ k < s 0 0 ∧ j ≠ k ∧ cw s p ex j = true ∧ cw s p ex k = true)
theorem uX4_onlyWalk {D : zM} {s : zA} (hI : IM D s) (hs : WF s) {p : Nat} (hp : p < 10) {ex : Option Nat} (hex : ∀ k, ex = some k → k < 14) : z_Ci mX4_onlyWalk [.ref 46, .int (nI p), .int (oI ex)] D (fun r E => E = D ∧ owP s p ex r) := by
  have h14 := hs.1
  refine bX4_onlyWalk_0 ?_
  have ixe : ∀ k, k < 14 → (nI k = oI ex) = (ex = some k) := by
    intro k hk
    cases ex with
    | none =>
      have := nI_ne9 (show k < 2 ^ 31 by omega)
      simp [oI, this]
    | some j =>
      have := hex j rfl
      show (nI k = nI j) = _
      rw [nI_eq (by omega) (by omega)]
      simp [eq_comm]
  have loop : ∀ (m k : Nat) (cur : Option Nat), k + m = s 0 0 → ((cur = none ∧ ∀ j, j < k → cw s p ex j = false) ∨ ∃ c, cur = some c ∧ c < k ∧ cw s p ex c = true ∧ ∀ j, j < k → cw s p ex j = true → j = c) → z_Ok mX4_onlyWalk 6 [some (.ref 46), some (.int (nI p)), some (.int (oI ex)), some (.int (oI cur)), some (.int (nI k))] [] D (z_pi (fun r E => E = D ∧ owP s p ex r)) := by
    intro m
    induction m with
    | zero =>
      intro k cur hk hc
      have e1 : (D 46 0 ≤ nI k) = True := by rw [hI.1, nI_leI (by omega) (by omega)]; simp; omega
      apply bX4_onlyWalk_6 <;> simp only [e1, not_true, false_imp_iff, true_imp_iff]
      rw [show k = s 0 0 by omega] at hc
      rcases hc with ⟨rfl, hc⟩ | ⟨c, rfl, h1, h2, h3⟩
      · exact ⟨rfl, Or.inl ⟨rfl, hc⟩⟩
      · exact ⟨rfl, Or.inr (Or.inl ⟨c, h1, rfl, h2, h3⟩)⟩
    | succ m ih =>
      intro k cur hk hc
      have e1 : (D 46 0 ≤ nI k) = False := by rw [hI.1, nI_leI (by omega) (by omega)]; simp; omega
      have ie := ixe k (by omega)
      have ih' := fun cur => ih (k + 1) cur (by omega)
      rw [nI_succ] at ih'
      have pass : cw s p ex k = false → z_Ok mX4_onlyWalk 6 [some (.ref 46), some (.int (nI p)), some (.int (oI ex)), some (.int (oI cur)), some (.int (nI k + 1))] [] D (z_pi (fun r E => E = D ∧ owP s p ex r)) := by
        intro hf
        refine ih' cur ?_
        rcases hc with ⟨rfl, hc⟩ | ⟨c, rfl, h1, h2, h3⟩
        · refine Or.inl ⟨rfl, fun j hj => ?_⟩
          by_cases e : j = k
          · rw [e]; exact hf
          · exact hc j (by omega)
        · refine Or.inr ⟨c, rfl, by omega, h2, fun j hj hj2 => ?_⟩
          by_cases e : j = k
          · rw [e, hf] at hj2; cases hj2
          · exact h3 j (by omega) hj2
      apply bX4_onlyWalk_6 <;> simp only [e1, ie, not_false_eq_true, false_imp_iff, true_imp_iff]
      · intro z
        exact pass (by simp [cw, z])
      · intro z
        refine sX4_onlyWalk_25 (uX4_touches hI hs hp (show k < s 0 0 by omega)) (fun r D1 hr => ?_)
        obtain ⟨rfl, rfl⟩ := hr
        have ib : (bI (tc s p k) = 0) = (tc s p k = false) := propext (bI_0 _)
        have in1 : ¬ nI k = -1 := by
          intro e
          have := congrArg Int32.toInt e
          rw [nI_toInt (by omega), show (-1 : Int32).toInt = -1 by decide] at this
          omega
        apply bX4_onlyWalk_28 <;> simp only [ib]
        · intro z2
          exact pass (by simp [cw, z2])
        · intro z2 z3
          have hk2 : cw s p ex k = true := by
            have : tc s p k = true := by cases h : tc s p k with
              | false => exact absurd h z2
              | true => rfl
            simp [cw, z, this]
          rcases hc with ⟨rfl, hc⟩ | ⟨c, rfl, h1, h2, h3⟩
          · exact absurd rfl z3
          · exact ⟨rfl, Or.inr (Or.inr ⟨rfl, c, k, by omega, by omega, by omega, h2, hk2⟩)⟩
        · intro z2 z3 z4
          have hk2 : cw s p ex k = true := by
            have : tc s p k = true := by cases h : tc s p k with
              | false => exact absurd h z2
              | true => rfl
            simp [cw, z, this]
          rcases hc with ⟨rfl, hc⟩ | ⟨c, rfl, h1, h2, h3⟩
          · refine ih' (some k) (Or.inr ⟨k, rfl, by omega, hk2, fun j hj hj2 => ?_⟩)
            by_cases e : j = k
            · exact e
            · rw [hc j (by omega)] at hj2; cases hj2
          · exact absurd z3 (nI_ne9 (by omega))
        · intro z2 z3 z4
          exact absurd z4 in1
  exact loop (s 0 0) 0 none (by omega) (Or.inl ⟨rfl, fun j hj => by omega⟩)
/-- the walk by which he came, and the place from which -/
def PB (s : zA) (p : Nat) (prev ex : Option Nat) : Prop := (prev = none ∧ ex = none) ∨ ∃ q k, prev = some q ∧ ex = some k ∧ k < s 0 0 ∧ mt s p q k = true
theorem cw_nx {s : zA} (hs : WF s) {p k : Nat} {prev ex : Option Nat} (hB : PB s p prev ex) (hk : k < s 0 0) (h : cw s p ex k = true) : ∃ q, q < 10 ∧ mt s p q k = true ∧ s 4 k = 1 ∧ nx s p prev q = true := by
  simp only [cw, tc, Bool.and_eq_true, Bool.or_eq_true, decide_eq_true_eq] at h
  obtain ⟨h1, h2, h3⟩ := h
  obtain ⟨g1, g2, -⟩ := hs.2.2.2.2.1 k hk
  obtain ⟨q, hq, hm⟩ : ∃ q, q < 10 ∧ mt s p q k = true := by
    rcases h3 with e | e
    · exact ⟨s 2 k, g2, mt_iff.mpr (Or.inl ⟨e, rfl⟩)⟩
    · exact ⟨s 1 k, by omega, mt_iff.mpr (Or.inr ⟨rfl, e⟩)⟩
  refine ⟨q, hq, hm, h2, ?_⟩
  simp only [nx, Bool.and_eq_true, decide_eq_true_eq]
  refine ⟨(oa_iff hs).mpr ⟨k, hk, hm, h2⟩, fun e => ?_⟩
  rcases hB with ⟨e1, -⟩ | ⟨q0, k0, e1, e2, e3, e4⟩
  · rw [e1] at e; cases e
  · rw [e1] at e
    cases e
    exact h1 (by rw [e2, mt_uniq hs e3 hk e4 hm])
theorem nx_cw {s : zA} (hs : WF s) {p q : Nat} {prev ex : Option Nat} (hB : PB s p prev ex) (h : nx s p prev q = true) : ∃ k, k < s 0 0 ∧ mt s p q k = true ∧ s 4 k = 1 ∧ cw s p ex k = true := by
  simp only [nx, Bool.and_eq_true, decide_eq_true_eq] at h
  obtain ⟨k, h1, h2, h3⟩ := (oa_iff hs).mp h.1
  refine ⟨k, h1, h2, h3, ?_⟩
  simp only [cw, tc, Bool.and_eq_true, Bool.or_eq_true, decide_eq_true_eq]
  have h2' := mt_iff.mp h2
  have hlt := (hs.2.2.2.2.1 k h1).1
  refine ⟨fun e => ?_, h3, by omega⟩
  rcases hB with ⟨-, e1⟩ | ⟨q0, k0, e1, e2, e3, e4⟩
  · rw [e1] at e; cases e
  · rw [e2] at e
    cases e
    have e4' := mt_iff.mp e4
    exact h.2 (by rw [e1]; exact congrArg some (by omega))
theorem mt_q {s : zA} {p q t k : Nat} (h : s 1 k ≠ s 2 k) (h1 : mt s p q k = true) (h2 : mt s p t k = true) : q = t := by
  rw [mt_iff] at h1 h2
  omega
/-- what nextWalk tells -/
def nwP (s : zA) (r : Nat ⊕ Nat) (p : Nat) (y v : Int32) : Prop := match r with
  | .inl e => v = nI e
  | .inr q => v = -9 ∧ ∃ k, k < s 0 0 ∧ y = nI k ∧ mt s p q k = true ∧ s 4 k = 1
theorem nxt_some {s : zA} {ar : Nat → Option Nat} {p t : Nat} {prev : Option Nat} (h : ar p = some t) : nxt s ar p prev = if oa s p t = true then .inr t else .inl 3 := by
  unfold nxt
  rw [h]
theorem nxt_none {s : zA} {ar : Nat → Option Nat} {p : Nat} {prev : Option Nat} (h : ar p = none) (h2 : z_fst (nx s p prev) 10 0 = none) : nxt s ar p prev = .inl 2 := by
  unfold nxt
  rw [h, h2]
theorem nxt_fst {s : zA} {ar : Nat → Option Nat} {p t : Nat} {prev : Option Nat} (h : ar p = none) (h2 : z_fst (nx s p prev) 10 0 = some t) : nxt s ar p prev = if ct (nx s p prev) 10 ≤ 1 then .inr t else .inl 1 := by
  unfold nxt
  rw [h, h2]
theorem uX4_nextWalk {D : zM} {s : zA} (hI : IM D s) (hs : WF s) {ar : Nat → Option Nat} (hA : AR D ar) {p : Nat} (hp : p < 10) {prev ex : Option Nat} (hB : PB s p prev ex) :
    z_Ci mX4_nextWalk [.ref 46, .int (nI p), .int (oI ex)] D (fun r E => nwP s (nxt s ar p prev) p r (E 46 13) ∧ z_ag 46 [] [13] D E) := by
  have h14 := hs.1
  have ep : (nI p).toNatClampNeg = p := nI_clamp (by omega)
  have hag1 : z_ag 46 [] [13] D (z_up D 46 13 (-9)) := z_ag.rfl.fld _ (by decide)
  have hI1 := hI.ag hag1 (by decide) (by decide)
  refine bX4_nextWalk_0 (vp_in_nI hp (by omega)) (fun c => ?_) (fun c => ?_)
  · rw [ep, hA.1 p hp, oI_ne9 (fun k hk => by have := hA.2 p k hp hk; omega)] at c
    have hex : ∀ k, ex = some k → k < 14 := by
      intro k hk
      rcases hB with ⟨-, e⟩ | ⟨q0, k0, e1, e2, e3, e4⟩
      · rw [e] at hk; cases hk
      · rw [e2] at hk; cases hk; omega
    refine sX4_nextWalk_50 (uX4_onlyWalk hI1 hs hp hex) (fun r D1 hr => ?_)
    obtain ⟨rfl, hr⟩ := hr
    rcases hr with ⟨rfl, hn⟩ | ⟨k, hk, rfl, h1, h2⟩ | ⟨rfl, j, k, hj, hk, hjk, h1, h2⟩
    · refine bX4_nextWalk_53 (fun z => absurd rfl z) (fun z => absurd rfl z) (fun _ => ⟨?_, hag1.fld _ (by decide)⟩)
      rw [z_up_eq, nxt_none c (z_fst_no (fun q _ hq => by
        cases hx : nx s p prev q with
        | false => rfl
        | true =>
          obtain ⟨k, k1, k2, k3, k4⟩ := nx_cw hs hB hx
          rw [hn k k1] at k4; cases k4))]
      rfl
    · have e9 : ¬ nI k = -9 := nI_ne9 (by omega)
      obtain ⟨q, hq, hm, hop, hx⟩ := cw_nx hs hB hk h1
      have hlt := (hs.2.2.2.2.1 k hk).1
      have un : ∀ t, t < 10 → nx s p prev t = true → t = q := by
        intro t ht hx2
        obtain ⟨k2, a1, a2, a3, a4⟩ := nx_cw hs hB hx2
        have := h2 k2 a1 a4
        subst this
        exact mt_q (by omega) a2 hm
      have hf : z_fst (nx s p prev) 10 0 = some q := z_fst_eq (Nat.zero_le _) (by omega) hx (fun i _ hi => by
        cases hx2 : nx s p prev i with
        | false => rfl
        | true => have := un i (by omega) hx2; omega)
      refine bX4_nextWalk_53 (fun _ _ => ⟨?_, hag1.fld _ (by decide)⟩) (fun _ z => absurd (by rw [n0, nI_leI (by omega) (by omega)]; omega) z) (fun z => absurd z e9)
      rw [z_up_eq, nxt_fst c hf, if_pos (ct_single un)]
      exact ⟨rfl, k, hk, rfl, hm, hop⟩
    · obtain ⟨q, hq, hm, hop, hx⟩ := cw_nx hs hB hj h1
      obtain ⟨t, ht, hm2, hop2, hx2⟩ := cw_nx hs hB hk h2
      have hqt : q ≠ t := fun e => hjk (mt_uniq hs hj hk hm (by rw [e]; exact hm2))
      have h2c : 2 ≤ ct (nx s p prev) 10 := by
        rcases Nat.lt_or_gt_of_ne hqt with z | z
        · exact ct_two z ht hx hx2
        · exact ct_two z hq hx2 hx
      refine bX4_nextWalk_53 (fun _ z => absurd z (by decide)) (fun _ _ => ⟨?_, hag1.fld _ (by decide)⟩) (fun z => absurd z (by decide))
      rw [z_up_eq]
      cases hf : z_fst (nx s p prev) 10 0 with
      | none =>
        rw [z_fst_none hf q (Nat.zero_le _) (by omega)] at hx
        cases hx
      | some a =>
        rw [nxt_fst c hf, if_neg (by omega)]
        rfl
  · rw [ep, hA.1 p hp] at c
    cases ha : ar p with
    | none => rw [ha] at c; exact absurd rfl c
    | some t =>
      have ht := hA.2 p t hp ha
      rw [ep, hA.1 p hp, ha]
      refine sX4_nextWalk_25 (uX4_openBetween hI1 hs hp ht) (fun r D1 hr => ?_)
      obtain ⟨rfl, rfl⟩ := hr
      cases hk : obt s p t with
      | none =>
        refine bX4_nextWalk_28 (fun z => absurd rfl z) (fun _ => ⟨?_, hag1.fld _ (by decide)⟩)
        have hno : ¬ oa s p t = true := by unfold oa; rw [hk]; simp
        rw [z_up_eq, nxt_some ha, if_neg hno]
        rfl
      | some k =>
        obtain ⟨k1, k2, k3⟩ := (obt_iff hs).mp hk
        have e9 : ¬ nI k = -9 := nI_ne9 (by omega)
        refine bX4_nextWalk_28 (fun _ => ⟨?_, hag1.fld _ (by decide)⟩) (fun z => absurd z e9)
        have hyes : oa s p t = true := by unfold oa; rw [hk]; rfl
        rw [z_up_eq, nxt_some ha, if_pos hyes]
        exact ⟨rfl, k, k1, rfl, k2, k3⟩
