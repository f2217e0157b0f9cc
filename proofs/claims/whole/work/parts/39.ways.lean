/-! THE WAYS BY BEST: which boards are needed -/
def arS (s : zA) (n c : Nat) : Nat → Option Nat := fun p => if c.testBit p = true then bst s (fN s n) p else none
def chs (s : zA) (f : Nat → Nat) : Nat → Nat → Option Nat → Nat → Bool
  | 0, _, _, _ => false
  | m + 1, p, prev, x => match bst s f p with
    | none => false
    | some q => (decide (x = p) && decide (1 < ct (nx s p prev) 10)) || chs s f m q (some p) x
theorem chs_none {s : zA} {f : Nat → Nat} {m p : Nat} {prev : Option Nat} {x : Nat} (h : bst s f p = none) : chs s f (m + 1) p prev x = false := by
  unfold chs
  rw [h]
theorem chs_some {s : zA} {f : Nat → Nat} {m p q : Nat} {prev : Option Nat} {x : Nat} (h : bst s f p = some q) : chs s f (m + 1) p prev x = ((decide (x = p) && decide (1 < ct (nx s p prev) 10)) || chs s f m q (some p) x) := by
  rw [chs.eq_2, h]
/-- the choices have a best, and are places -/
theorem chs_best {s : zA} {f : Nat → Nat} : ∀ {m p : Nat} {prev : Option Nat} {x : Nat}, p < 10 → chs s f m p prev x = true → x < 10 ∧ (bst s f x).isSome = true
  | 0, p, prev, x, _, h => by simp [chs] at h
  | m + 1, p, prev, x, hp, h => by
    cases hb : bst s f p with
    | none => rw [chs_none hb] at h; cases h
    | some q =>
      rw [chs_some hb] at h
      rcases Bool.or_eq_true_iff.mp h with h | h
      · simp only [Bool.and_eq_true, decide_eq_true_eq] at h
        rw [h.1, hb]
        exact ⟨hp, rfl⟩
      · exact chs_best (bst_spec hb).1 h
/-- who goes by the boards of a set: he arrives just where all choices on the way by best have one; then he goes just FAR -/
theorem way_best {s : zA} (hs : WF s) {n c : Nat} (hh : s 5 n < 10) : ∀ (m k p : Nat) (prev : Option Nat) (V : Nat → Nat → Bool), p < 10 → rank (fN s n) p < m → rank (fN s n) p < k → fN s n p < 100000 → (∀ r, prev = some r → fN s n p < fN s n r) → (∀ a b, V a b = true → fN s n p ≤ fN s n b) →
    (((fol s (arS s n c) (s 5 n) k p prev V).1 = 0 ↔ ∀ x, chs s (fN s n) m p prev x = true → c.testBit x = true) ∧ ((fol s (arS s n c) (s 5 n) k p prev V).1 = 0 → (fol s (arS s n c) (s 5 n) k p prev V).2.2 = fN s n p)) := by
  intro m
  induction m with
  | zero => intro k p prev V _ h; omega
  | succ m ih =>
    intro k p prev V hp hrm hrk hf hprev hV
    obtain ⟨k, rfl⟩ : ∃ j, k = j + 1 := ⟨k - 1, by omega⟩
    by_cases e : p = s 5 n
    · have hz : fN s n p = 0 := by rw [e]; exact far_home hs (s 5 n)
      have hb : bst s (fN s n) p = none := by unfold bst; rw [if_pos (Or.inl hz)]
      rw [fol_home e]
      refine ⟨⟨fun _ x hx => ?_, fun _ => rfl⟩, fun _ => hz.symm⟩
      rw [chs_none hb] at hx
      cases hx
    · obtain ⟨q, hb⟩ := bst_some hs hh e hf
      have hb' : bst s (fN s n) p = some q := hb
      obtain ⟨hq, ho, hsum, -, -⟩ := bst_spec hb'
      have hl := (ol_pos hs ho).1
      have hlt : fN s n q < fN s n p := by omega
      have hnx : nx s p prev q = true := by
        simp only [nx, Bool.and_eq_true, decide_eq_true_eq]
        refine ⟨ho, fun z => ?_⟩
        have := hprev q z
        omega
      have hvf : V p q = false := by
        cases h9 : V p q with
        | false => rfl
        | true => have := hV p q h9; omega
      have hrq := rank_lt (g := fN s n) hq hlt
      have hV' : ∀ a b, vup V p q a b = true → fN s n q ≤ fN s n b := by
        intro a b hab
        simp only [vup, Bool.or_eq_true, Bool.and_eq_true, beq_iff_eq] at hab
        rcases hab with hab | hab
        · have := hV a b hab; omega
        · rw [hab.2]; exact Nat.le_refl _
      have IH := ih k q (some p) (vup V p q) hq (by omega) (by omega) (by omega) (fun r hr => by cases hr; exact hlt) hV'
      have step : nxt s (arS s n c) p prev = .inr q → (1 < ct (nx s p prev) 10 → c.testBit p = true) → (((fol s (arS s n c) (s 5 n) (k + 1) p prev V).1 = 0 ↔ ∀ x, chs s (fN s n) (m + 1) p prev x = true → c.testBit x = true) ∧ ((fol s (arS s n c) (s 5 n) (k + 1) p prev V).1 = 0 → (fol s (arS s n c) (s 5 n) (k + 1) p prev V).2.2 = fN s n p)) := by
        intro hn hc
        rw [fol_on e hn hvf]
        refine ⟨⟨fun h0 x hx => ?_, fun h0 => ?_⟩, fun h0 => ?_⟩
        · rw [chs_some hb'] at hx
          rcases Bool.or_eq_true_iff.mp hx with hx | hx
          · simp only [Bool.and_eq_true, decide_eq_true_eq] at hx
            rw [hx.1]; exact hc hx.2
          · exact IH.1.mp h0 x hx
        · exact IH.1.mpr (fun x hx => h0 x (by rw [chs_some hb', hx]; simp))
        · have := IH.2 h0
          show ol s p q + _ = _
          rw [this]
          omega
      by_cases hc : c.testBit p = true
      · have ha : arS s n c p = some q := by unfold arS; rw [if_pos hc]; exact hb'
        exact step (by rw [nxt_some ha, if_pos ho]) (fun _ => hc)
      · have ha : arS s n c p = none := by unfold arS; rw [if_neg hc]
        cases hz : z_fst (nx s p prev) 10 0 with
        | none =>
          have := z_fst_none hz q (Nat.zero_le _) (by omega)
          rw [this] at hnx; cases hnx
        | some t =>
          by_cases h1 : ct (nx s p prev) 10 ≤ 1
          · obtain ⟨-, t2, t3, -⟩ := z_fst_some hz
            have : t = q := ct_uniq h1 (by omega) hq t3 hnx
            subst this
            exact step (by rw [nxt_fst ha hz, if_pos h1]) (fun z => by omega)
          · have hn : nxt s (arS s n c) p prev = .inl 1 := by rw [nxt_fst ha hz, if_neg h1]
            rw [fol_end e hn]
            refine ⟨⟨fun h0 => absurd h0 (by decide), fun h0 => ?_⟩, fun h0 => absurd h0 (by decide)⟩
            exact absurd (h0 p (by rw [chs_some hb']; simp; left; omega)) hc
/-- whether a set leads -/
def ldP (s : zA) (n c p : Nat) : Bool := decide ((folR s (arS s n c) (s 5 n) p).1 = 0) && decide ((folR s (arS s n c) (s 5 n) p).2.2 ≤ fN s n p + s 0 3)
def LDk (s : zA) (n c : Nat) : Nat → Bool
  | 0 => true
  | p + 1 => LDk s n c p && (!en s p || ldP s n c p)
def LD (s : zA) (n c : Nat) : Bool := LDk s n c 10
theorem LDk_iff {s : zA} {n c : Nat} : ∀ {k : Nat}, LDk s n c k = true ↔ ∀ p, p < k → en s p = true → ldP s n c p = true
  | 0 => by simp [LDk]
  | k + 1 => by
    have ih := LDk_iff (s := s) (n := n) (c := c) (k := k)
    show (LDk s n c k && (!en s k || ldP s n c k)) = true ↔ _
    rw [Bool.and_eq_true, ih, Bool.or_eq_true]
    constructor
    · rintro ⟨h1, h2⟩ p hp he
      by_cases e : p = k
      · subst e
        rcases h2 with q | q
        · rw [he] at q; cases q
        · exact q
      · exact h1 p (by omega) he
    · intro h
      refine ⟨fun p hp he => h p (by omega) he, ?_⟩
      cases he : en s k with
      | false => exact Or.inl rfl
      | true => exact Or.inr (h k (by omega) he)
theorem LDk_stop {s : zA} {n c p : Nat} (h : LDk s n c p = false) : ∀ m, LDk s n c (p + m) = false
  | 0 => h
  | m + 1 => by
    show (LDk s n c (p + m) && _) = false
    rw [LDk_stop h m]
    rfl
theorem LDk_yes {s : zA} {n c p : Nat} (h : LDk s n c p = true) (h2 : en s p = false ∨ ldP s n c p = true) : LDk s n c (p + 1) = true := by
  show (LDk s n c p && (!en s p || ldP s n c p)) = true
  rcases h2 with q | q <;> simp [h, q]
theorem LDk_no {s : zA} {n c p : Nat} (h1 : en s p = true) (h2 : ldP s n c p = false) : LDk s n c (p + 1) = false := by
  show (LDk s n c p && (!en s p || ldP s n c p)) = false
  simp [h1, h2]
/-- all entrances are where one comes to the name from; the choices on the ways from them -/
def AL (s : zA) (n : Nat) : Prop := ∀ p, p < 10 → en s p = true → fN s n p < 100000
def CHk (s : zA) (n : Nat) : Nat → Nat → Bool
  | 0, _ => false
  | p + 1, x => CHk s n p x || (en s p && chs s (fN s n) 10 p none x)
def CH (s : zA) (n : Nat) : Nat → Bool := CHk s n 10
theorem CHk_iff {s : zA} {n x : Nat} : ∀ {k : Nat}, CHk s n k x = true ↔ ∃ p, p < k ∧ en s p = true ∧ chs s (fN s n) 10 p none x = true
  | 0 => by simp [CHk]
  | k + 1 => by
    have ih := CHk_iff (s := s) (n := n) (x := x) (k := k)
    show (CHk s n k x || (en s k && chs s (fN s n) 10 k none x)) = true ↔ _
    rw [Bool.or_eq_true, ih, Bool.and_eq_true]
    constructor
    · rintro (⟨p, h1, h2⟩ | h)
      · exact ⟨p, by omega, h2⟩
      · exact ⟨k, by omega, h⟩
    · rintro ⟨p, h1, h2⟩
      by_cases e : p = k
      · subst e; exact Or.inr h2
      · exact Or.inl ⟨p, by omega, h2⟩
theorem CH_best {s : zA} {n x : Nat} (h : CH s n x = true) : x < 10 ∧ (bst s (fN s n) x).isSome = true := by
  obtain ⟨p, hp, -, h2⟩ := CHk_iff.mp h
  exact chs_best hp h2
theorem LD_iff {s : zA} (hs : WF s) {n c : Nat} (hh : s 5 n < 10) : LD s n c = true ↔ AL s n ∧ ∀ x, CH s n x = true → c.testBit x = true := by
  unfold LD
  rw [LDk_iff]
  have key : ∀ p, p < 10 → fN s n p < 100000 → (((folR s (arS s n c) (s 5 n) p).1 = 0 ↔ ∀ x, chs s (fN s n) 10 p none x = true → c.testBit x = true) ∧ ((folR s (arS s n c) (s 5 n) p).1 = 0 → (folR s (arS s n c) (s 5 n) p).2.2 = fN s n p)) := by
    intro p hp hf
    have := rank_9 (fN s n) hp
    exact way_best hs hh 10 29 p none (fun _ _ => false) hp (by omega) (by omega) hf (fun r hr => by cases hr) (fun a b hab => by cases hab)
  constructor
  · intro h
    have hAL : AL s n := fun p hp he => by
      have := h p hp he
      simp only [ldP, Bool.and_eq_true, decide_eq_true_eq] at this
      exact arr_near hs hh 29 p none _ this.1
    refine ⟨hAL, fun x hx => ?_⟩
    obtain ⟨p, hp, he, hc⟩ := CHk_iff.mp hx
    have := h p hp he
    simp only [ldP, Bool.and_eq_true, decide_eq_true_eq] at this
    exact (key p hp (hAL p hp he)).1.mp this.1 x hc
  · rintro ⟨hAL, hC⟩ p hp he
    obtain ⟨k1, k2⟩ := key p hp (hAL p hp he)
    have h0 := k1.mpr (fun x hx => hC x (CHk_iff.mpr ⟨p, hp, he, hx⟩))
    have h1 := k2 h0
    simp only [ldP, Bool.and_eq_true, decide_eq_true_eq]
    exact ⟨h0, by omega⟩
