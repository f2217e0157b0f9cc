/-! FAR is right: nine rounds are enough -/
theorem relM_le (s : zA) (k : Nat) (f : Nat → Nat) (p : Nat) : relM s k f p ≤ f p := by
  unfold relM
  split
  · exact Nat.le_trans (rl1_le _ _ _ _ p) (rl1_le _ _ _ _ p)
  · exact Nat.le_refl _
theorem rndM_le (s : zA) (f : Nat → Nat) (p : Nat) : ∀ k, rndM s k f p ≤ f p
  | 0 => Nat.le_refl _
  | k + 1 => Nat.le_trans (relM_le s k _ p) (rndM_le s f p k)
theorem rndM_mono (s : zA) (f : Nat → Nat) (p : Nat) {j : Nat} : ∀ m, rndM s (j + m) f p ≤ rndM s j f p
  | 0 => Nat.le_refl _
  | m + 1 => Nat.le_trans (relM_le s (j + m) _ p) (rndM_mono s f p m)
theorem relM_ab {s : zA} {k : Nat} (h : s 4 k = 1) (hk : s 1 k ≠ s 2 k) (f : Nat → Nat) : relM s k f (s 1 k) ≤ f (s 2 k) + s 3 k ∧ relM s k f (s 2 k) ≤ f (s 1 k) + s 3 k := by
  unfold relM
  rw [if_pos h]
  unfold rl1
  constructor
  · simp [hk, Ne.symm hk]
    omega
  · simp [hk, Ne.symm hk]
    omega
/-- a round relaxes each open walk -/
theorem rndM_edge {s : zA} (hs : WF s) {p q : Nat} (ho : oa s p q = true) (f : Nat → Nat) : rndM s (s 0 0) f p ≤ f q + ol s p q := by
  obtain ⟨k, h1, h2, h3⟩ := (oa_iff hs).mp ho
  have hlt := (hs.2.2.2.2.1 k h1).1
  have hab := relM_ab h3 (show s 1 k ≠ s 2 k by omega) (rndM s k f)
  have hm : rndM s (s 0 0) f p ≤ rndM s (k + 1) f p := by
    have := rndM_mono s f p (j := k + 1) (s 0 0 - (k + 1))
    rw [show k + 1 + (s 0 0 - (k + 1)) = s 0 0 by omega] at this
    exact this
  have hq := rndM_le s f q k
  have e : rndM s (k + 1) f p = relM s k (rndM s k f) p := rfl
  rw [ol_of hs h1 h2 h3]
  rcases mt_iff.mp h2 with ⟨e1, e2⟩ | ⟨e1, e2⟩
  · rw [e1, e2] at hab
    have := hab.1
    omega
  · rw [e1, e2] at hab
    have := hab.2
    omega
/-- each number but home's comes from a neighbour -/
def supp (s : zA) (h : Nat) (f : Nat → Nat) : Prop := f h = 0 ∧ ∀ p, p ≠ h → f p < 100000 → ∃ q, oa s p q = true ∧ f q + ol s p q ≤ f p
theorem rl1_supp {s : zA} {h a b : Nat} {f : Nat → Nat} (hab : a ≠ b) (ho : oa s a b = true) (hf : supp s h f) : supp s h (rl1 a b (ol s a b) f) := by
  refine ⟨?_, fun p hp hlt => ?_⟩
  · have := rl1_le a b (ol s a b) f h
    have := hf.1
    omega
  · by_cases e : p = a
    · subst e
      by_cases c : f b + ol s p b < f p
      · refine ⟨b, ho, ?_⟩
        have e1 : rl1 p b (ol s p b) f b = f b := by unfold rl1; rw [if_neg (Ne.symm hab)]
        have e2 : rl1 p b (ol s p b) f p = f b + ol s p b := by unfold rl1; rw [if_pos rfl]; omega
        omega
      · have e2 : rl1 p b (ol s p b) f p = f p := by unfold rl1; rw [if_pos rfl]; omega
        rw [e2] at hlt ⊢
        obtain ⟨q, h1, h2⟩ := hf.2 p hp hlt
        refine ⟨q, h1, ?_⟩
        have := rl1_le p b (ol s p b) f q
        omega
    · have e2 : rl1 a b (ol s a b) f p = f p := by unfold rl1; rw [if_neg e]
      rw [e2] at hlt ⊢
      obtain ⟨q, h1, h2⟩ := hf.2 p hp hlt
      refine ⟨q, h1, ?_⟩
      have := rl1_le a b (ol s a b) f q
      omega
theorem relM_supp {s : zA} (hs : WF s) {h k : Nat} (hk : k < s 0 0) {f : Nat → Nat} (hf : supp s h f) : supp s h (relM s k f) := by
  unfold relM
  by_cases c : s 4 k = 1
  · rw [if_pos c]
    have hlt := (hs.2.2.2.2.1 k hk).1
    have m1 : mt s (s 1 k) (s 2 k) k = true := mt_iff.mpr (Or.inl ⟨rfl, rfl⟩)
    have m2 : mt s (s 2 k) (s 1 k) k = true := mt_iff.mpr (Or.inr ⟨rfl, rfl⟩)
    have o1 : oa s (s 1 k) (s 2 k) = true := (oa_iff hs).mpr ⟨k, hk, m1, c⟩
    have o2 : oa s (s 2 k) (s 1 k) = true := (oa_iff hs).mpr ⟨k, hk, m2, c⟩
    have l1 : ol s (s 1 k) (s 2 k) = s 3 k := ol_of hs hk m1 c
    have l2 : ol s (s 2 k) (s 1 k) = s 3 k := ol_of hs hk m2 c
    have a1 := rl1_supp (show s 2 k ≠ s 1 k by omega) o2 hf
    rw [l2] at a1
    have a2 := rl1_supp (show s 1 k ≠ s 2 k by omega) o1 a1
    rw [l1] at a2
    exact a2
  · rw [if_neg c]; exact hf
theorem rndM_supp {s : zA} (hs : WF s) {h : Nat} {f : Nat → Nat} (hf : supp s h f) : ∀ k, k ≤ s 0 0 → supp s h (rndM s k f)
  | 0, _ => hf
  | k + 1, hk => relM_supp hs (by omega) (rndM_supp hs hf k (by omega))
theorem farM_supp {s : zA} (hs : WF s) (h : Nat) : ∀ r, supp s h (farM s h r)
  | 0 => ⟨by simp [farM, iniF], fun p hp hlt => by
    have : iniF h p = 100000 := by unfold iniF; rw [if_neg hp]
    have h2 : iniF h p < 100000 := hlt
    omega⟩
  | r + 1 => rndM_supp hs (farM_supp hs h r) (s 0 0) (Nat.le_refl _)
theorem rl1_out {a b l p : Nat} {f : Nat → Nat} (h : p ≠ a) : rl1 a b l f p = f p := by unfold rl1; rw [if_neg h]
theorem rndM_out {s : zA} (hs : WF s) {f : Nat → Nat} {p : Nat} (hp : 10 ≤ p) : ∀ k, k ≤ s 0 0 → rndM s k f p = f p
  | 0, _ => rfl
  | k + 1, hk => by
    have hlt := hs.2.2.2.2.1 k (by omega)
    show relM s k (rndM s k f) p = f p
    unfold relM
    split
    · rw [rl1_out (by omega), rl1_out (by omega)]; exact rndM_out hs hp k (by omega)
    · exact rndM_out hs hp k (by omega)
theorem sm_lt {f g : Nat → Nat} : ∀ {n p : Nat}, (∀ i, i < n → g i ≤ f i) → p < n → g p < f p → sm g n < sm f n
  | 0, p, _, h, _ => by omega
  | n + 1, p, hle, hp, hlt => by
    have mono : ∀ m, m ≤ n + 1 → sm g m ≤ sm f m := by
      intro m
      induction m with
      | zero => intro _; exact Nat.le_refl _
      | succ m ih =>
        intro hm
        have := ih (by omega)
        have := hle m (by omega)
        show sm g m + g m ≤ sm f m + f m
        omega
    show sm g n + g n < sm f n + f n
    by_cases e : p = n
    · subst e
      have := mono p (by omega)
      omega
    · have := sm_lt (fun i hi => hle i (by omega)) (show p < n by omega) hlt
      have := hle n (by omega)
      omega
theorem far_stops {s : zA} (hs : WF s) (h : Nat) : ∀ (n r : Nat), sm (farM s h r) 10 ≤ n → ∃ M, rndM s (s 0 0) (farM s h M) = farM s h M := by
  intro n
  induction n with
  | zero =>
    intro r hr
    by_cases e : rndM s (s 0 0) (farM s h r) = farM s h r
    · exact ⟨r, e⟩
    · exfalso
      apply e
      funext p
      by_cases hp : p < 10
      · have h1 := rndM_le s (farM s h r) p (s 0 0)
        by_cases c : rndM s (s 0 0) (farM s h r) p < farM s h r p
        · have := sm_lt (fun i _ => rndM_le s (farM s h r) i (s 0 0)) hp c
          omega
        · omega
      · exact rndM_out hs (by omega) (s 0 0) (Nat.le_refl _)
  | succ n ih =>
    intro r hr
    by_cases e : rndM s (s 0 0) (farM s h r) = farM s h r
    · exact ⟨r, e⟩
    · apply ih (r + 1)
      have : ∃ p, p < 10 ∧ rndM s (s 0 0) (farM s h r) p < farM s h r p := by
        apply Classical.byContradiction
        intro no
        apply e
        funext p
        by_cases hp : p < 10
        · have h1 := rndM_le s (farM s h r) p (s 0 0)
          have h2 : ¬ rndM s (s 0 0) (farM s h r) p < farM s h r p := fun z => no ⟨p, hp, z⟩
          omega
        · exact rndM_out hs (by omega) (s 0 0) (Nat.le_refl _)
      obtain ⟨p, hp, hlt⟩ := this
      have := sm_lt (fun i _ => rndM_le s (farM s h r) i (s 0 0)) hp hlt
      show sm (rndM s (s 0 0) (farM s h r)) 10 ≤ n
      omega
theorem farM_anti (s : zA) (h p : Nat) {r : Nat} : ∀ m, farM s h (r + m) p ≤ farM s h r p
  | 0 => Nat.le_refl _
  | m + 1 => Nat.le_trans (rndM_le s _ p (s 0 0)) (farM_anti s h p m)
def rank (g : Nat → Nat) (p : Nat) : Nat := ct (fun q => decide (g q < g p)) 10
theorem ct_lt {f g : Nat → Bool} {n q : Nat} (h : ∀ i, i < n → f i = true → g i = true) (hq : q < n) (h1 : f q = false) (h2 : g q = true) : ct f n < ct g n := by
  refine sm_lt (p := q) (fun i hi => ?_) hq ?_
  · cases hf : f i with
    | false => simp
    | true => simp [h i hi hf]
  · simp [h1, h2]
theorem rank_lt {g : Nat → Nat} {p q : Nat} (hq : q < 10) (h : g q < g p) : rank g q < rank g p := by
  refine ct_lt (q := q) (fun i _ hi => ?_) hq (by simp) (by simp [h])
  simp only [decide_eq_true_eq] at hi ⊢
  omega
theorem rank_9 (g : Nat → Nat) {p : Nat} (hp : p < 10) : rank g p ≤ 9 := by
  have : ct (fun q => decide (g q < g p)) 10 < ct (fun _ => true) 10 := ct_lt (q := p) (fun _ _ _ => rfl) hp (by simp) rfl
  have e : ct (fun _ => true) 10 = 10 := by decide
  unfold rank
  omega
/-- nine rounds reach the end -/
theorem far_fix {s : zA} (hs : WF s) {h : Nat} (hh : h < 10) : rndM s (s 0 0) (farF s h) = farF s h := by
  obtain ⟨M, hM⟩ := far_stops hs h _ 0 (Nat.le_refl _)
  have hG := farM_supp hs h M
  have edge : ∀ p q, oa s p q = true → farM s h M p ≤ farM s h M q + ol s p q := fun p q ho => by
    have := rndM_edge hs ho (farM s h M)
    rw [hM] at this
    exact this
  have ge : ∀ r p, farM s h M p ≤ farM s h r p := by
    intro r p
    by_cases c : r ≤ M
    · have := farM_anti s h p (r := r) (M - r)
      rw [show r + (M - r) = M by omega] at this
      exact this
    · have := farM_stop hM (r - M)
      rw [show M + (r - M) = r by omega] at this
      rw [this]
      exact Nat.le_refl _
  have settle : ∀ r p, p < 10 → rank (farM s h M) p ≤ r → farM s h r p = farM s h M p := by
    intro r
    induction r with
    | zero =>
      intro p hp hr
      have hge := ge 0 p
      by_cases e : p = h
      · subst e
        have : farM s p 0 p = 0 := by simp [farM, iniF]
        omega
      · have e0 : farM s h 0 p = 100000 := by show iniF h p = 100000; unfold iniF; rw [if_neg e]
        by_cases c : farM s h M p < 100000
        · obtain ⟨q, h1, h2⟩ := hG.2 p e c
          have hp1 := (ol_pos hs h1).1
          have := rank_lt (g := farM s h M) (oa_lt hs h1).2.1 (show farM s h M q < farM s h M p by omega)
          omega
        · omega
    | succ r ih =>
      intro p hp hr
      have hge := ge (r + 1) p
      by_cases e : p = h
      · subst e
        have := farM_supp hs p (r + 1)
        have := this.1
        omega
      · by_cases c : farM s h M p < 100000
        · obtain ⟨q, h1, h2⟩ := hG.2 p e c
          have hp1 := (ol_pos hs h1).1
          have hq := (oa_lt hs h1).2.1
          have hrk := rank_lt (g := farM s h M) hq (show farM s h M q < farM s h M p by omega)
          have hq2 := ih q hq (by omega)
          have := rndM_edge hs h1 (farM s h r)
          have e2 : farM s h (r + 1) p = rndM s (s 0 0) (farM s h r) p := rfl
          omega
        · have h0 : farM s h (r + 1) p ≤ farM s h 0 p := by
            have := farM_anti s h p (r := 0) (r + 1)
            rw [Nat.zero_add] at this
            exact this
          have e0 : farM s h 0 p = 100000 := by show iniF h p = 100000; unfold iniF; rw [if_neg e]
          omega
  have eq : farF s h = farM s h M := by
    funext p
    by_cases hp : p < 10
    · exact settle 9 p hp (rank_9 _ hp)
    · have out : ∀ r, farM s h r p = 100000 := by
        intro r
        induction r with
        | zero => show iniF h p = 100000; unfold iniF; rw [if_neg (by omega)]
        | succ r ih => show rndM s (s 0 0) (farM s h r) p = 100000; rw [rndM_out hs (by omega) (s 0 0) (Nat.le_refl _)]; exact ih
      show farM s h 9 p = _
      rw [out 9, out M]
  rw [eq]
  exact hM
/-- what FAR and BEST are -/
theorem far_edge {s : zA} (hs : WF s) {h : Nat} (hh : h < 10) {p q : Nat} (ho : oa s p q = true) : farF s h p ≤ farF s h q + ol s p q := by
  have := rndM_edge hs ho (farF s h)
  rw [far_fix hs hh] at this
  exact this
theorem far_home {s : zA} (hs : WF s) (h : Nat) : farF s h h = 0 := (farM_supp hs h 9).1
theorem far_pos {s : zA} (hs : WF s) {h p : Nat} (hp : p ≠ h) : farF s h p ≠ 0 := by
  intro e
  obtain ⟨q, h1, h2⟩ := (farM_supp hs h 9).2 p hp (by show farF s h p < 100000; omega)
  have := (ol_pos hs h1).1
  have h2' : farF s h q + ol s p q ≤ farF s h p := h2
  omega
theorem bst_some {s : zA} (hs : WF s) {h : Nat} (hh : h < 10) {p : Nat} (hp : p ≠ h) (hf : farF s h p < 100000) : ∃ q, bst s (farF s h) p = some q := by
  obtain ⟨q, h1, h2⟩ := (farM_supp hs h 9).2 p hp hf
  have h2' : farF s h q + ol s p q ≤ farF s h p := h2
  have h3 := far_edge hs hh h1
  have h0 := far_pos hs hp
  have hq := (oa_lt hs h1).2.1
  unfold bst
  rw [if_neg (by omega)]
  cases hz : z_fst (fun q => oa s p q && decide (farF s h q + ol s p q = farF s h p)) 10 0 with
  | some t => exact ⟨t, rfl⟩
  | none =>
    have := z_fst_none hz q (Nat.zero_le _) (by omega)
    simp [h1] at this
    omega
/-- who arrives started where one comes from -/
theorem arr_near {s : zA} (hs : WF s) {h : Nat} (hh : h < 10) {ar : Nat → Option Nat} : ∀ (n p : Nat) (prev : Option Nat) (V : Nat → Nat → Bool), (fol s ar h n p prev V).1 = 0 → farF s h p < 100000 := by
  intro n
  induction n with
  | zero => intro p prev V h0; simp [fol] at h0
  | succ n ih =>
    intro p prev V h0
    by_cases hp : p = h
    · subst hp; rw [far_home hs]; omega
    · cases hn : nxt s ar p prev with
      | inl e =>
        rw [fol_end hp hn] at h0
        have := nxt_end hn
        have h0' : e = 0 := h0
        omega
      | inr q =>
        have ho := nxt_go hn
        cases hv : V p q with
        | true => rw [fol_again hp hn hv] at h0; cases h0
        | false =>
          rw [fol_on hp hn hv] at h0
          have h1 := ih q (some p) (vup V p q) h0
          have h2 := far_edge hs hh ho
          have h3 := (ol_pos hs ho).2
          have h4 := farF_bdd hs h q
          omega
