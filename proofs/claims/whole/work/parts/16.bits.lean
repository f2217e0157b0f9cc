/-! BITS AND GRAPHS: sets of places as numbers, who is next to whom -/
theorem nb_and (a b : Nat) : nI a &&& nI b = nI (a &&& b) := by
  apply Int32.toBitVec_inj.1
  show BitVec.ofNat 32 a &&& BitVec.ofNat 32 b = BitVec.ofNat 32 (a &&& b)
  apply BitVec.eq_of_getLsbD_eq
  intro i hi
  simp [hi]
theorem nb_or (a b : Nat) : nI a ||| nI b = nI (a ||| b) := by
  apply Int32.toBitVec_inj.1
  show BitVec.ofNat 32 a ||| BitVec.ofNat 32 b = BitVec.ofNat 32 (a ||| b)
  apply BitVec.eq_of_getLsbD_eq
  intro i hi
  simp [hi]
theorem nb_xor (a b : Nat) : nI a ^^^ nI b = nI (a ^^^ b) := by
  apply Int32.toBitVec_inj.1
  show BitVec.ofNat 32 a ^^^ BitVec.ofNat 32 b = BitVec.ofNat 32 (a ^^^ b)
  apply BitVec.eq_of_getLsbD_eq
  intro i hi
  simp [hi]
theorem nb_sh1 : ∀ q, q < 10 → (1 : Int32) <<< (nI q &&& 31) = nI (2 ^ q) := by decide +kernel
theorem nb_smod : ∀ q, q < 10 → ((nI q &&& 31).toBitVec.smod 32).toNat = q := by decide +kernel
theorem nb_shr {m q : Nat} (hm : m < 2 ^ 31) (hq : q < 10) : nI m >>> (nI q &&& 31) = nI (m / 2 ^ q) := pk_shrN hm _ q (nb_smod q hq)
theorem zb_bit {m q : Nat} (hm : m < 2 ^ 31) (hq : q < 10) : zb (nI m) (nI q) ↔ m.testBit q = true := by
  unfold zb
  have h2 : m / 2 ^ q < 2 ^ 31 := Nat.lt_of_le_of_lt (Nat.div_le_self _ _) hm
  rw [nb_shr hm hq, pk_andN (by omega) 1 (by decide), n1, nI_eq (by omega) (by omega), Nat.testBit_eq_decide_div_mod_eq]
  simp
def bm (f : Nat → Bool) : Nat → Nat
  | 0 => 0
  | n + 1 => bm f n + (if f n then 2 ^ n else 0)
theorem bm_lt (f : Nat → Bool) : ∀ n, bm f n < 2 ^ n
  | 0 => by simp [bm]
  | n + 1 => by
    have := bm_lt f n
    unfold bm
    rw [Nat.pow_succ]
    split <;> omega
theorem bm_bit (f : Nat → Bool) : ∀ n q, (bm f n).testBit q = (decide (q < n) && f q)
  | 0, q => by simp [bm]
  | n + 1, q => by
    have hl := bm_lt f n
    have ih := bm_bit f n q
    unfold bm
    by_cases hf : f n = true
    · rw [if_pos hf, Nat.add_comm]
      by_cases e : q = n
      · subst e
        rw [Nat.testBit_two_pow_add_eq, Nat.testBit_lt_two_pow hl]
        simp [hf]
      · by_cases h : q < n
        · rw [Nat.testBit_two_pow_add_gt h, ih]
          simp [h, Nat.lt_succ_of_lt h]
        · have h1 : 2 ^ n + bm f n < 2 ^ q := by
            have h2 : 2 ^ (n + 1) ≤ 2 ^ q := Nat.pow_le_pow_right (by omega) (by omega)
            rw [Nat.pow_succ] at h2
            omega
          rw [Nat.testBit_lt_two_pow h1]
          simp [show ¬ q < n + 1 by omega]
    · rw [if_neg hf, Nat.add_zero, ih]
      by_cases e : q = n
      · subst e
        simp [hf]
      · have : decide (q < n) = decide (q < n + 1) := decide_eq_decide.mpr (by omega)
        rw [this]
theorem bm_congr {f g : Nat → Bool} {n : Nat} (h : ∀ q, q < n → f q = g q) : bm f n = bm g n := by
  apply Nat.eq_of_testBit_eq
  intro i
  rw [bm_bit, bm_bit]
  by_cases hi : i < n
  · simp [hi, h i hi]
  · simp [hi]
theorem bm_xor (f : Nat → Bool) {n b : Nat} (hb : b < n) : bm f n ^^^ 2 ^ b = bm (fun q => if q = b then !f q else f q) n := by
  apply Nat.eq_of_testBit_eq
  intro i
  rw [Nat.testBit_xor, bm_bit, bm_bit, Nat.testBit_two_pow]
  by_cases e : i = b
  · subst e
    simp [hb]
  · simp [e, Ne.symm e]
theorem bm_or (f : Nat → Bool) {n b : Nat} (hb : b < n) : bm f n ||| 2 ^ b = bm (fun q => if q = b then true else f q) n := by
  apply Nat.eq_of_testBit_eq
  intro i
  rw [Nat.testBit_or, bm_bit, bm_bit, Nat.testBit_two_pow]
  by_cases e : i = b
  · subst e
    simp [hb]
  · simp [e, Ne.symm e]
/-- a set of places, as it is, is a bm -/
theorem bm_of {m n : Nat} (h : m < 2 ^ n) : bm m.testBit n = m := by
  apply Nat.eq_of_testBit_eq
  intro i
  rw [bm_bit]
  by_cases hi : i < n
  · simp [hi]
  · have : m < 2 ^ i := Nat.lt_of_lt_of_le h (Nat.pow_le_pow_right (by omega) (by omega))
    simp [hi, Nat.testBit_lt_two_pow this]
def oa (s : zA) (p q : Nat) : Bool := (obt s p q).isSome
def ol (s : zA) (p q : Nat) : Nat := match obt s p q with
  | none => 0
  | some k => s 3 k
theorem mt_iff {s : zA} {a b k : Nat} : mt s a b k = true ↔ (s 1 k = a ∧ s 2 k = b) ∨ (s 1 k = b ∧ s 2 k = a) := by simp [mt]
theorem mt_comm {s : zA} {a b k : Nat} : mt s a b k = mt s b a k := by
  unfold mt
  exact Bool.or_comm _ _
theorem mt_uniq {s : zA} (hs : WF s) {a b j k : Nat} (hj : j < s 0 0) (hk : k < s 0 0) (h1 : mt s a b j = true) (h2 : mt s a b k = true) : j = k := by
  obtain ⟨a1, -, -, -, -, a2⟩ := hs.2.2.2.2.1 j hj
  obtain ⟨b1, -, -, -, -, b2⟩ := hs.2.2.2.2.1 k hk
  rw [mt_iff] at h1 h2
  rcases Nat.lt_trichotomy j k with q | q | q
  · exact absurd ⟨by omega, by omega⟩ (b2 j q)
  · exact q
  · exact absurd ⟨by omega, by omega⟩ (a2 k q)
theorem wbt_iff {s : zA} (hs : WF s) {a b k : Nat} : wbt s a b = some k ↔ k < s 0 0 ∧ mt s a b k = true := by
  constructor
  · intro h
    obtain ⟨-, h2, h3, -⟩ := z_fst_some h
    exact ⟨by omega, h3⟩
  · rintro ⟨h1, h2⟩
    refine z_fst_eq (Nat.zero_le _) (by omega) h2 (fun i _ hi => ?_)
    cases h : mt s a b i with
    | false => rfl
    | true => exact absurd (mt_uniq hs (by omega) h1 h h2) (by omega)
theorem wbt_comm {s : zA} {a b : Nat} : wbt s a b = wbt s b a := by
  unfold wbt
  rw [show mt s a b = mt s b a from funext fun k => mt_comm]
theorem obt_iff {s : zA} (hs : WF s) {a b k : Nat} : obt s a b = some k ↔ k < s 0 0 ∧ mt s a b k = true ∧ s 4 k = 1 := by
  unfold obt
  cases h : wbt s a b with
  | none =>
    constructor
    · intro h2; cases h2
    · rintro ⟨h1, h2, -⟩
      rw [(wbt_iff hs).mpr ⟨h1, h2⟩] at h
      cases h
  | some j =>
    obtain ⟨h1, h2⟩ := (wbt_iff hs).mp h
    show (if s 4 j = 1 then some j else none) = some k ↔ _
    constructor
    · intro h3
      by_cases e : s 4 j = 1
      · rw [if_pos e] at h3
        cases h3
        exact ⟨h1, h2, e⟩
      · rw [if_neg e] at h3
        cases h3
    · rintro ⟨h3, h4, h5⟩
      have := mt_uniq hs h1 h3 h2 h4
      subst this
      rw [if_pos h5]
theorem obt_comm {s : zA} {a b : Nat} : obt s a b = obt s b a := by
  unfold obt
  rw [wbt_comm]
theorem oa_iff {s : zA} (hs : WF s) {a b : Nat} : oa s a b = true ↔ ∃ k, k < s 0 0 ∧ mt s a b k = true ∧ s 4 k = 1 := by
  unfold oa
  constructor
  · intro h
    obtain ⟨k, hk⟩ := Option.isSome_iff_exists.mp h
    exact ⟨k, (obt_iff hs).mp hk⟩
  · rintro ⟨k, hk⟩
    rw [(obt_iff hs).mpr hk]
    rfl
theorem oa_comm {s : zA} {a b : Nat} : oa s a b = oa s b a := by unfold oa; rw [obt_comm]
theorem ol_comm {s : zA} {a b : Nat} : ol s a b = ol s b a := by unfold ol; rw [obt_comm]
theorem ol_of {s : zA} (hs : WF s) {a b k : Nat} (h1 : k < s 0 0) (h2 : mt s a b k = true) (h3 : s 4 k = 1) : ol s a b = s 3 k := by
  unfold ol
  rw [(obt_iff hs).mpr ⟨h1, h2, h3⟩]
theorem ol_no {s : zA} {a b : Nat} (h : oa s a b = false) : ol s a b = 0 := by
  unfold oa at h
  unfold ol
  cases hk : obt s a b with
  | none => rfl
  | some k => rw [hk] at h; cases h
theorem ol_pos {s : zA} (hs : WF s) {a b : Nat} (h : oa s a b = true) : 1 ≤ ol s a b ∧ ol s a b ≤ 99 := by
  obtain ⟨k, h1, h2, h3⟩ := (oa_iff hs).mp h
  rw [ol_of hs h1 h2 h3]
  have := hs.2.2.2.2.1 k h1
  omega
theorem oa_lt {s : zA} (hs : WF s) {a b : Nat} (h : oa s a b = true) : a < 10 ∧ b < 10 ∧ a ≠ b := by
  obtain ⟨k, h1, h2, -⟩ := (oa_iff hs).mp h
  rw [mt_iff] at h2
  have := hs.2.2.2.2.1 k h1
  omega
/-- the class holds the state -/
def IX (D : zM) (s : zA) : Prop := D 1 6 = nI (s 0 0) ∧ D 0 7 = nI (s 0 1) ∧ D 0 8 = nI (s 0 2) ∧ D 0 9 = nI (s 0 3) ∧
  (∀ k, k < s 0 0 → D 2 k = nI (s 1 k) ∧ D 3 k = nI (s 2 k) ∧ D 4 k = nI (s 3 k) ∧ D 5 k = nI (s 4 k)) ∧
  (∀ n, n < s 0 1 → D 38 n = nI (s 5 n)) ∧ (∀ p, p < 10 → ∀ n, n < 5 → D (40 + n) p = oI (aO (s 6 (5 * p + n)))) ∧
  (∀ p, p < 10 → D 6 p = nI (bm (oa s p) 10)) ∧ ∀ p, p < 10 → ∀ q, q < 10 → D (8 + p) q = nI (ol s p q)
theorem IX.ag {D D' : zM} {s : zA} {ps ks : List Nat} (h : IX D s) (hD : z_ag 0 ps ks D D') (hp : ps.all (fun q => decide ((18 ≤ q ∧ q < 38) ∨ 44 < q)) = true) (hk : ks.all (fun k => decide (9 < k)) = true) : IX D' s := by
  have e : ∀ q, 0 < q → q < 18 ∨ (38 ≤ q ∧ q ≤ 44) → D' q = D q := fun q h1 h2 => hD.1 q (by omega) (fun c => by
    have := of_decide_eq_true (List.all_eq_true.mp hp q c)
    omega)
  have f : ∀ k, k ≤ 9 → D' 0 k = D 0 k := fun k h1 => hD.2 k (fun c => by
    have := of_decide_eq_true (List.all_eq_true.mp hk k c)
    omega)
  obtain ⟨h1, h2, h3, h4, h5, h6, h7, h8, h9⟩ := h
  refine ⟨by rw [e 1 (by omega) (by omega)]; exact h1, by rw [f 7 (by omega)]; exact h2, by rw [f 8 (by omega)]; exact h3, by rw [f 9 (by omega)]; exact h4, fun k hk => ?_, fun n hn => ?_, fun p hp n hn => ?_, fun p hp => ?_, fun p hp q hq => ?_⟩
  · rw [e 2 (by omega) (by omega), e 3 (by omega) (by omega), e 4 (by omega) (by omega), e 5 (by omega) (by omega)]
    exact h5 k hk
  · rw [e 38 (by omega) (by omega)]; exact h6 n hn
  · rw [e (40 + n) (by omega) (by omega)]; exact h7 p hp n hn
  · rw [e 6 (by omega) (by omega)]; exact h8 p hp
  · rw [e (8 + p) (by omega) (by omega)]; exact h9 p hp q hq
def zI (D : zM) (s : zA) : Prop := WF s ∧ IM D s ∧ IX D s
/-- what both have behind a call: the class answered r, the reference answers the same, both hold one state -/
def zJ (Y : zY) (as : List Value) : Int32 → zM → Prop := fun r D1 => z_Ci Y as D1 (fun r2 D2 => r2 = r ∧ ∃ s, zI D2 s)
