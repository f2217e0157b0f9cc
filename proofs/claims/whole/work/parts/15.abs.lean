/-! THE ABSTRACT STATE, in natural numbers: s 0: 0 walks, 1 names, 2 entrances, 3 detour; s 1, 2, 3, 4: a walk's lesser place, greater place, length, open; s 5: a name's place; s 6: arrows by 5 * place + name (0 none, q + 1 to q) -/
abbrev zA : Type := Nat → Nat → Nat
def oI (o : Option Nat) : Int32 := match o with
  | none => -9
  | some k => nI k
def aO (v : Nat) : Option Nat := match v with
  | 0 => none
  | q + 1 => some q
def a_up (s : zA) (i k v : Nat) : zA := fun j => if j = i then (fun x => if x = k then v else s j x) else s j
theorem a_up_eq (s : zA) (i k v : Nat) : a_up s i k v i k = v := by simp [a_up]
theorem a_up_k {s : zA} {i k j v : Nat} (h : j ≠ k) : a_up s i k v i j = s i j := by simp [a_up, h]
theorem a_up_ne {s : zA} {i j k v : Nat} (h : j ≠ i) : a_up s i k v j = s j := by simp [a_up, h]
/-- the first of n numbers from k on -/
def z_fst (p : Nat → Bool) : Nat → Nat → Option Nat
  | 0, _ => none
  | n + 1, k => if p k then some k else z_fst p n (k + 1)
theorem z_fst_some {p : Nat → Bool} : ∀ {n k j : Nat}, z_fst p n k = some j → k ≤ j ∧ j < k + n ∧ p j = true ∧ ∀ i, k ≤ i → i < j → p i = false
  | 0, k, j, h => by simp [z_fst] at h
  | n + 1, k, j, h => by
    unfold z_fst at h
    by_cases hp : p k = true
    · rw [if_pos hp] at h
      cases h
      exact ⟨Nat.le_refl _, by omega, hp, fun i h1 h2 => by omega⟩
    · rw [if_neg hp] at h
      obtain ⟨h1, h2, h3, h4⟩ := z_fst_some h
      refine ⟨by omega, by omega, h3, fun i h5 h6 => ?_⟩
      by_cases e : i = k
      · subst e; simpa using hp
      · exact h4 i (by omega) h6
theorem z_fst_none {p : Nat → Bool} : ∀ {n k : Nat}, z_fst p n k = none → ∀ i, k ≤ i → i < k + n → p i = false
  | 0, k, h, i, h1, h2 => by omega
  | n + 1, k, h, i, h1, h2 => by
    unfold z_fst at h
    by_cases hp : p k = true
    · rw [if_pos hp] at h; cases h
    · rw [if_neg hp] at h
      by_cases e : i = k
      · subst e; simpa using hp
      · exact z_fst_none h i (by omega) (by omega)
theorem z_fst_eq {p : Nat → Bool} {n k j : Nat} (h1 : k ≤ j) (h2 : j < k + n) (h3 : p j = true) (h4 : ∀ i, k ≤ i → i < j → p i = false) : z_fst p n k = some j := by
  cases h : z_fst p n k with
  | none => rw [z_fst_none h j h1 h2] at h3; cases h3
  | some i =>
    obtain ⟨a1, a2, a3, a4⟩ := z_fst_some h
    rcases Nat.lt_trichotomy i j with q | q | q
    · rw [h4 i a1 q] at a3; cases a3
    · rw [q]
    · rw [a4 j h1 q] at h3; cases h3
theorem z_fst_no {p : Nat → Bool} {n k : Nat} (h : ∀ i, k ≤ i → i < k + n → p i = false) : z_fst p n k = none := by
  cases h' : z_fst p n k with
  | none => rfl
  | some i =>
    obtain ⟨a1, a2, a3, a4⟩ := z_fst_some h'
    rw [h i a1 a2] at a3; cases a3
def mt (s : zA) (a b k : Nat) : Bool := (s 1 k == a && s 2 k == b) || (s 1 k == b && s 2 k == a)
def wbt (s : zA) (a b : Nat) : Option Nat := z_fst (mt s a b) (s 0 0) 0
def obt (s : zA) (a b : Nat) : Option Nat := match wbt s a b with
  | none => none
  | some k => if s 4 k = 1 then some k else none
def WF (s : zA) : Prop := s 0 0 ≤ 14 ∧ s 0 1 ≤ 5 ∧ s 0 2 < 1024 ∧ s 0 3 ≤ 999 ∧
  (∀ k, k < s 0 0 → s 1 k < s 2 k ∧ s 2 k < 10 ∧ 1 ≤ s 3 k ∧ s 3 k ≤ 99 ∧ s 4 k ≤ 1 ∧ ∀ j, j < k → ¬ (s 1 j = s 1 k ∧ s 2 j = s 2 k)) ∧
  (∀ n, n < s 0 1 → s 5 n < 10) ∧ ∀ x, x < 50 → s 6 x ≤ 10
/-- the reference holds the state -/
def IM (D : zM) (s : zA) : Prop := D 46 0 = nI (s 0 0) ∧ D 46 5 = nI (s 0 1) ∧ D 46 7 = nI (s 0 2) ∧ D 46 8 = nI (s 0 3) ∧
  (∀ k, k < s 0 0 → D 47 k = nI (s 1 k) ∧ D 48 k = nI (s 2 k) ∧ D 49 k = nI (s 3 k) ∧ D 50 k = nI (s 4 k)) ∧
  (∀ n, n < s 0 1 → D 51 n = nI (s 5 n)) ∧ ∀ x, x < 50 → D 52 x = oI (aO (s 6 x))
/-- what changes: of place z the fields ks, else the places ps -/
def z_ag (z : Nat) (ps ks : List Nat) (D D' : zM) : Prop := (∀ q, q ≠ z → q ∉ ps → D' q = D q) ∧ ∀ k, k ∉ ks → D' z k = D z k
theorem z_ag.rfl {z : Nat} {ps ks : List Nat} {D : zM} : z_ag z ps ks D D := ⟨fun _ _ _ => Eq.refl _, fun _ _ => Eq.refl _⟩
theorem z_ag.trans {z : Nat} {ps ks : List Nat} {D D1 D2 : zM} (h1 : z_ag z ps ks D D1) (h2 : z_ag z ps ks D1 D2) : z_ag z ps ks D D2 := ⟨fun q a b => (h2.1 q a b).trans (h1.1 q a b), fun k a => (h2.2 k a).trans (h1.2 k a)⟩
theorem z_ag.mono {z : Nat} {ps ks ps' ks' : List Nat} {D D1 : zM} (h : z_ag z ps ks D D1) (hp : ps.all (fun x => ps'.contains x) = true) (hk : ks.all (fun x => ks'.contains x) = true) : z_ag z ps' ks' D D1 := by
  refine ⟨fun q a b => h.1 q a (fun c => b ?_), fun k a => h.2 k (fun c => a ?_)⟩
  · exact List.contains_iff_mem.mp (List.all_eq_true.mp hp q c)
  · exact List.contains_iff_mem.mp (List.all_eq_true.mp hk k c)
theorem z_ag.row {z : Nat} {ps ks : List Nat} {D D1 : zM} (h : z_ag z ps ks D D1) {q : Nat} (f : Nat → Int32) (hq : q ∈ ps) (hz : q ≠ z) : z_ag z ps ks D (z_row D1 q f) :=
  ⟨fun p a b => by rw [z_row_ne (p := p) (q := q) (fun e => b (by rw [e]; exact hq))]; exact h.1 p a b, fun k a => by rw [z_row_ne (Ne.symm hz)]; exact h.2 k a⟩
theorem z_ag.up {z : Nat} {ps ks : List Nat} {D D1 : zM} (h : z_ag z ps ks D D1) {q : Nat} (k : Nat) (v : Int32) (hq : q ∈ ps) (hz : q ≠ z) : z_ag z ps ks D (z_up D1 q k v) := h.row _ hq hz
theorem z_ag.fld {z : Nat} {ps ks : List Nat} {D D1 : zM} (h : z_ag z ps ks D D1) {k : Nat} (v : Int32) (hk : k ∈ ks) : z_ag z ps ks D (z_up D1 z k v) :=
  ⟨fun p a b => by rw [z_up_ne a]; exact h.1 p a b, fun j a => by rw [z_up_k (j := j) (k := k) (fun e => a (by rw [e]; exact hk))]; exact h.2 j a⟩
theorem IM.ag {D D' : zM} {s : zA} {ps ks : List Nat} (h : IM D s) (hD : z_ag 46 ps ks D D') (hp : ps.all (fun q => decide (q < 46 ∨ 52 < q)) = true) (hk : ks.all (fun k => decide (k ≠ 0 ∧ k ≠ 5 ∧ k ≠ 7 ∧ k ≠ 8)) = true) : IM D' s := by
  have e : ∀ q, 46 < q → q ≤ 52 → D' q = D q := fun q h1 h2 => hD.1 q (by omega) (fun c => by
    have := of_decide_eq_true (List.all_eq_true.mp hp q c)
    omega)
  have f : ∀ k, k = 0 ∨ k = 5 ∨ k = 7 ∨ k = 8 → D' 46 k = D 46 k := fun k h1 => hD.2 k (fun c => by
    have := of_decide_eq_true (List.all_eq_true.mp hk k c)
    omega)
  obtain ⟨h1, h2, h3, h4, h5, h6, h7⟩ := h
  refine ⟨by rw [f 0 (by omega)]; exact h1, by rw [f 5 (by omega)]; exact h2, by rw [f 7 (by omega)]; exact h3, by rw [f 8 (by omega)]; exact h4, fun k hk => ?_, fun n hn => ?_, fun x hx => ?_⟩
  · rw [e 47 (by omega) (by omega), e 48 (by omega) (by omega), e 49 (by omega) (by omega), e 50 (by omega) (by omega)]
    exact h5 k hk
  · rw [e 51 (by omega) (by omega)]; exact h6 n hn
  · rw [e 52 (by omega) (by omega)]; exact h7 x hx
theorem nI_ne9 {a : Nat} (h : a < 2 ^ 31) : nI a ≠ -9 := by
  intro e
  have := congrArg Int32.toInt e
  rw [nI_toInt h, show (-9 : Int32).toInt = -9 by decide] at this
  omega
theorem nI_lit (a : Nat) : Int32.ofNat a = nI a := rfl
theorem n0 : (0 : Int32) = nI 0 := rfl
theorem n1 : (1 : Int32) = nI 1 := rfl
theorem n5 : (5 : Int32) = nI 5 := rfl
theorem n10 : (10 : Int32) = nI 10 := rfl
theorem n14 : (14 : Int32) = nI 14 := rfl
/-- the reference's walkBetween -/
theorem uX4_wb_loop {D : zM} {s : zA} (hI : IM D s) (hs : WF s) {a b : Nat} (ha : a < 10) (hb : b < 10) : ∀ (n k : Nat), k + n = s 0 0 → z_Ok mX4_walkBetween 2 [some (.ref 46), some (.int (nI a)), some (.int (nI b)), some (.int (nI k))] [] D (z_pi (z_va (oI (z_fst (mt s a b) n k)) D)) := by
  intro n
  have hw := hs.1
  induction n with
  | zero =>
    intro k hk
    have e1 : (D 46 0 ≤ nI k) = True := by rw [hI.1, nI_leI (by omega) (by omega)]; simp; omega
    apply bX4_walkBetween_2 <;> simp only [e1, not_true, false_imp_iff, true_imp_iff]
    exact ⟨rfl, rfl⟩
  | succ n ih =>
    intro k hk
    have e1 : (D 46 0 ≤ nI k) = False := by rw [hI.1, nI_leI (by omega) (by omega)]; simp; omega
    have e0 : (nI k).toNatClampNeg = k := nI_clamp (by omega)
    obtain ⟨f1, f2, f3, f4⟩ := hI.2.2.2.2.1 k (by omega)
    obtain ⟨g1, g2, -⟩ := hs.2.2.2.2.1 k (by omega)
    have i1 : (nI (s 1 k) = nI a) = (s 1 k = a) := propext (nI_eq (by omega) (by omega))
    have i2 : (nI (s 1 k) = nI b) = (s 1 k = b) := propext (nI_eq (by omega) (by omega))
    have i3 : (nI (s 2 k) = nI a) = (s 2 k = a) := propext (nI_eq (by omega) (by omega))
    have i4 : (nI (s 2 k) = nI b) = (s 2 k = b) := propext (nI_eq (by omega) (by omega))
    have ih' := ih (k + 1) (by omega)
    rw [nI_succ] at ih'
    apply bX4_walkBetween_2 <;> simp only [e1, e0, f1, f2, i1, i2, i3, i4, not_false_eq_true, false_imp_iff, true_imp_iff]
    · exact vp_in_nI (by omega) (by omega)
    all_goals (intros; first
      | (rw [show z_fst (mt s a b) (n + 1) k = z_fst (mt s a b) n (k + 1) from if_neg (by simp [mt]; omega)]; exact ih')
      | (rw [show z_fst (mt s a b) (n + 1) k = some k from if_pos (by simp [mt]; omega)]; exact ⟨rfl, rfl⟩))
theorem uX4_walkBetween {D : zM} {s : zA} (hI : IM D s) (hs : WF s) {a b : Nat} (ha : a < 10) (hb : b < 10) : z_Ci mX4_walkBetween [.ref 46, .int (nI a), .int (nI b)] D (z_va (oI (wbt s a b)) D) :=
  bX4_walkBetween_0 (uX4_wb_loop hI hs ha hb (s 0 0) 0 (by omega))
