/-! ONE WHO FOLLOWS, in natural numbers -/
def nx (s : zA) (p : Nat) (prev : Option Nat) (q : Nat) : Bool := oa s p q && decide (prev ≠ some q)
def nxt (s : zA) (ar : Nat → Option Nat) (p : Nat) (prev : Option Nat) : Nat ⊕ Nat := match ar p with
  | some q => if oa s p q = true then .inr q else .inl 3
  | none => match z_fst (nx s p prev) 10 0 with
    | none => .inl 2
    | some q => if ct (nx s p prev) 10 ≤ 1 then .inr q else .inl 1
def vup (V : Nat → Nat → Bool) (p q : Nat) : Nat → Nat → Bool := fun a b => V a b || (a == p && b == q)
/-- how it ends, the places behind the first, the lengths together; n steps at most -/
def fol (s : zA) (ar : Nat → Option Nat) (h : Nat) : Nat → Nat → Option Nat → (Nat → Nat → Bool) → Nat × List Nat × Nat
  | 0, _, _, _ => (4, [], 0)
  | n + 1, p, prev, V => if p = h then (0, [], 0) else match nxt s ar p prev with
    | .inl e => (e, [], 0)
    | .inr q => if V p q = true then (4, [q], ol s p q) else ((fol s ar h n q (some p) (vup V p q)).1, q :: (fol s ar h n q (some p) (vup V p q)).2.1, ol s p q + (fol s ar h n q (some p) (vup V p q)).2.2)
theorem fol_home {s : zA} {ar : Nat → Option Nat} {h n p : Nat} {prev : Option Nat} {V : Nat → Nat → Bool} (hp : p = h) : fol s ar h (n + 1) p prev V = (0, [], 0) := if_pos hp
theorem fol_end {s : zA} {ar : Nat → Option Nat} {h n p e : Nat} {prev : Option Nat} {V : Nat → Nat → Bool} (hp : p ≠ h) (hn : nxt s ar p prev = .inl e) : fol s ar h (n + 1) p prev V = (e, [], 0) := by
  unfold fol
  rw [if_neg hp, hn]
theorem fol_again {s : zA} {ar : Nat → Option Nat} {h n p q : Nat} {prev : Option Nat} {V : Nat → Nat → Bool} (hp : p ≠ h) (hn : nxt s ar p prev = .inr q) (hv : V p q = true) : fol s ar h (n + 1) p prev V = (4, [q], ol s p q) := by
  unfold fol
  rw [if_neg hp, hn]
  exact if_pos hv
theorem fol_on {s : zA} {ar : Nat → Option Nat} {h n p q : Nat} {prev : Option Nat} {V : Nat → Nat → Bool} (hp : p ≠ h) (hn : nxt s ar p prev = .inr q) (hv : V p q = false) : fol s ar h (n + 1) p prev V = ((fol s ar h n q (some p) (vup V p q)).1, q :: (fol s ar h n q (some p) (vup V p q)).2.1, ol s p q + (fol s ar h n q (some p) (vup V p q)).2.2) := by
  rw [fol.eq_2]
  rw [if_neg hp, hn]
  exact if_neg (by rw [hv]; simp)
theorem nxt_go {s : zA} {ar : Nat → Option Nat} {p q : Nat} {prev : Option Nat} (h : nxt s ar p prev = .inr q) : oa s p q = true := by
  unfold nxt at h
  cases ha : ar p with
  | some t =>
    rw [ha] at h
    by_cases c : oa s p t = true
    · have h' : (if oa s p t = true then (Sum.inr t : Nat ⊕ Nat) else .inl 3) = .inr q := h
      rw [if_pos c] at h'
      cases h'
      exact c
    · have h' : (if oa s p t = true then (Sum.inr t : Nat ⊕ Nat) else .inl 3) = .inr q := h
      rw [if_neg c] at h'
      cases h'
  | none =>
    rw [ha] at h
    cases hz : z_fst (nx s p prev) 10 0 with
    | none =>
      rw [hz] at h
      cases h
    | some t =>
      rw [hz] at h
      have h' : (if ct (nx s p prev) 10 ≤ 1 then (Sum.inr t : Nat ⊕ Nat) else .inl 1) = .inr q := h
      by_cases c : ct (nx s p prev) 10 ≤ 1
      · rw [if_pos c] at h'
        cases h'
        have := (z_fst_some hz).2.2.1
        simp only [nx, Bool.and_eq_true] at this
        exact this.1
      · rw [if_neg c] at h'
        cases h'
theorem nxt_end {s : zA} {ar : Nat → Option Nat} {p e : Nat} {prev : Option Nat} (h : nxt s ar p prev = .inl e) : e = 1 ∨ e = 2 ∨ e = 3 := by
  unfold nxt at h
  cases ha : ar p with
  | some t =>
    rw [ha] at h
    have h' : (if oa s p t = true then (Sum.inr t : Nat ⊕ Nat) else .inl 3) = .inl e := h
    by_cases c : oa s p t = true
    · rw [if_pos c] at h'; cases h'
    · rw [if_neg c] at h'; cases h'; omega
  | none =>
    rw [ha] at h
    cases hz : z_fst (nx s p prev) 10 0 with
    | none =>
      rw [hz] at h
      have h' : (Sum.inl 2 : Nat ⊕ Nat) = .inl e := h
      cases h'; omega
    | some t =>
      rw [hz] at h
      have h' : (if ct (nx s p prev) 10 ≤ 1 then (Sum.inr t : Nat ⊕ Nat) else .inl 1) = .inl e := h
      by_cases c : ct (nx s p prev) 10 ≤ 1
      · rw [if_pos c] at h'; cases h'
      · rw [if_neg c] at h'; cases h'; omega
theorem fol_bound {s : zA} (hs : WF s) {ar : Nat → Option Nat} {h : Nat} : ∀ (n p : Nat) (prev : Option Nat) (V : Nat → Nat → Bool), (fol s ar h n p prev V).1 ≤ 4 ∧ (fol s ar h n p prev V).2.1.length ≤ n ∧ (fol s ar h n p prev V).2.2 ≤ 99 * n := by
  intro n
  induction n with
  | zero => intro p prev V; simp [fol]
  | succ n ih =>
    intro p prev V
    by_cases hp : p = h
    · rw [fol_home hp]; simp
    · cases hn : nxt s ar p prev with
      | inl e =>
        rw [fol_end hp hn]
        have := nxt_end hn
        simp
        omega
      | inr q =>
        have hl := (ol_pos hs (nxt_go hn)).2
        cases hv : V p q with
        | true =>
          rw [fol_again hp hn hv]
          simp
          omega
        | false =>
          rw [fol_on hp hn hv]
          have := ih q (some p) (vup V p q)
          simp
          omega
/-- how many ways along walks have been gone -/
def cV (s : zA) (V : Nat → Nat → Bool) : Nat := sm (fun k => (if V (s 1 k) (s 2 k) = true then 1 else 0) + (if V (s 2 k) (s 1 k) = true then 1 else 0)) (s 0 0)
theorem sm_upd {f g : Nat → Nat} {n k : Nat} (hk : k < n) (h1 : g k = f k + 1) (h2 : ∀ j, j < n → j ≠ k → g j = f j) : sm g n = sm f n + 1 := by
  induction n with
  | zero => omega
  | succ n ih =>
    unfold sm
    by_cases e : k = n
    · subst e
      rw [sm_congr (fun i hi => h2 i (by omega) (by omega)), h1]
      omega
    · rw [ih (by omega) (fun j hj hjk => h2 j (by omega) hjk), h2 n (by omega) (fun q => e q.symm)]
      omega
theorem cV_le {s : zA} (hs : WF s) (V : Nat → Nat → Bool) : cV s V ≤ 28 := by
  have := sm_le (f := fun k => (if V (s 1 k) (s 2 k) = true then 1 else 0) + (if V (s 2 k) (s 1 k) = true then 1 else 0)) (b := 2) (n := s 0 0) (fun i _ => by
    split <;> split <;> omega)
  have h14 := hs.1
  unfold cV
  omega
theorem cV_up {s : zA} (hs : WF s) {V : Nat → Nat → Bool} {p q : Nat} (ho : oa s p q = true) (hv : V p q = false) : cV s (vup V p q) = cV s V + 1 := by
  obtain ⟨k, h1, h2, h3⟩ := (oa_iff hs).mp ho
  have hlt := (hs.2.2.2.2.1 k h1).1
  refine sm_upd h1 ?_ (fun j hj hjk => ?_)
  · rcases mt_iff.mp h2 with ⟨e1, e2⟩ | ⟨e1, e2⟩
    · rw [e1, e2] at hlt ⊢
      have a1 : vup V p q p q = true := by simp [vup]
      have a2 : vup V p q q p = V q p := by
        have : ¬ q = p := by omega
        simp [vup, this]
      rw [a1, a2, hv]
      simp
      omega
    · rw [e1, e2] at hlt ⊢
      have a1 : vup V p q p q = true := by simp [vup]
      have a2 : vup V p q q p = V q p := by
        have : ¬ q = p := by omega
        simp [vup, this]
      rw [a1, a2, hv]
      simp
  · have no : ¬ mt s p q j = true := fun z => hjk (mt_uniq hs hj h1 z h2)
    rw [mt_iff] at no
    have a1 : vup V p q (s 1 j) (s 2 j) = V (s 1 j) (s 2 j) := by
      have : ¬ (s 1 j = p ∧ s 2 j = q) := fun z => no (Or.inl z)
      unfold vup
      by_cases e : s 1 j = p
      · have e2 : ¬ s 2 j = q := fun z => this ⟨e, z⟩
        simp [e2]
      · simp [e]
    have a2 : vup V p q (s 2 j) (s 1 j) = V (s 2 j) (s 1 j) := by
      have : ¬ (s 1 j = q ∧ s 2 j = p) := fun z => no (Or.inr z)
      unfold vup
      by_cases e : s 1 j = q
      · have e2 : ¬ s 2 j = p := fun z => this ⟨e, z⟩
        simp [e2]
      · simp [e]
    rw [a1, a2]
/-- counts of at most one -/
theorem ct_two {f : Nat → Bool} : ∀ {n i j : Nat}, i < j → j < n → f i = true → f j = true → 2 ≤ ct f n
  | 0, i, j, h1, h2, _, _ => by omega
  | n + 1, i, j, h1, h2, h3, h4 => by
    show 2 ≤ sm (fun i => if f i = true then 1 else 0) n + (if f n = true then 1 else 0)
    by_cases e : j = n
    · subst e
      rw [if_pos h4]
      have : ∀ m, i < m → 1 ≤ sm (fun i => if f i = true then 1 else 0) m := by
        intro m
        induction m with
        | zero => intro q; omega
        | succ m ih =>
          intro q
          show 1 ≤ sm (fun i => if f i = true then 1 else 0) m + (if f m = true then 1 else 0)
          by_cases e2 : i = m
          · subst e2; rw [if_pos h3]; omega
          · have := ih (by omega); omega
      have := this j h1
      omega
    · have : 2 ≤ sm (fun i => if f i = true then 1 else 0) n := ct_two h1 (by omega) h3 h4
      omega
theorem ct_uniq {f : Nat → Bool} {n i j : Nat} (h : ct f n ≤ 1) (hi : i < n) (hj : j < n) (h1 : f i = true) (h2 : f j = true) : i = j := by
  rcases Nat.lt_trichotomy i j with q | q | q
  · have := ct_two q hj h1 h2; omega
  · exact q
  · have := ct_two q hi h2 h1; omega
theorem ct_single {f : Nat → Bool} {q : Nat} : ∀ {n : Nat}, (∀ i, i < n → f i = true → i = q) → ct f n ≤ 1
  | 0, _ => by show 0 ≤ 1; omega
  | n + 1, h => by
    show sm (fun i => if f i = true then 1 else 0) n + (if f n = true then 1 else 0) ≤ 1
    by_cases c : f n = true
    · rw [if_pos c]
      have e := h n (by omega) c
      have : sm (fun i => if f i = true then 1 else 0) n = 0 := by
        rw [sm_congr (g := fun _ => 0) (fun i hi => by
          have : ¬ f i = true := fun z => by have := h i (by omega) z; omega
          simp [this]), sm_zero]
      omega
    · rw [if_neg c]
      exact ct_single (n := n) (fun i hi hf => h i (by omega) hf)
