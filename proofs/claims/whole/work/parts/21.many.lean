/-! ONE WALK LESS; from; many -/
def sm (f : Nat → Nat) : Nat → Nat
  | 0 => 0
  | n + 1 => sm f n + f n
theorem sm_congr {f g : Nat → Nat} : ∀ {n : Nat}, (∀ i, i < n → f i = g i) → sm f n = sm g n
  | 0, _ => rfl
  | n + 1, h => by
    unfold sm
    rw [sm_congr (fun i hi => h i (by omega)), h n (by omega)]
theorem sm_zero : ∀ n : Nat, sm (fun _ => 0) n = 0
  | 0 => rfl
  | n + 1 => by unfold sm; rw [sm_zero n]
theorem sm_add (f g : Nat → Nat) : ∀ n : Nat, sm (fun i => f i + g i) n = sm f n + sm g n
  | 0 => rfl
  | n + 1 => by
    unfold sm
    rw [sm_add f g n]
    omega
theorem sm_swap (g : Nat → Nat → Nat) (m : Nat) : ∀ n : Nat, sm (fun i => sm (g i) m) n = sm (fun j => sm (fun i => g i j) n) m
  | 0 => by
    show 0 = sm (fun _ => 0) m
    rw [sm_zero]
  | n + 1 => by
    show sm (fun i => sm (g i) m) n + sm (g n) m = sm (fun j => sm (fun i => g i j) n + g n j) m
    rw [sm_swap g m n, sm_add]
theorem sm_le {f : Nat → Nat} {b : Nat} : ∀ {n : Nat}, (∀ i, i < n → f i ≤ b) → sm f n ≤ n * b
  | 0, _ => by simp [sm]
  | n + 1, h => by
    have h1 := sm_le (n := n) (fun i hi => h i (by omega))
    have h2 := h n (by omega)
    unfold sm
    rw [Nat.succ_mul]
    omega
theorem sm_shift (f : Nat → Nat) : ∀ n : Nat, sm f (n + 1) = f 0 + sm (fun i => f (i + 1)) n
  | 0 => by simp [sm]
  | n + 1 => by
    have := sm_shift f n
    show sm f (n + 1) + f (n + 1) = f 0 + (sm (fun i => f (i + 1)) n + f (n + 1))
    omega
def ct (f : Nat → Bool) (n : Nat) : Nat := sm (fun i => if f i then 1 else 0) n
theorem ct_le (f : Nat → Bool) (n : Nat) : ct f n ≤ n := by
  have := sm_le (f := fun i => if f i then 1 else 0) (b := 1) (n := n) (fun i _ => by split <;> omega)
  unfold ct
  omega
theorem ct_congr {f g : Nat → Bool} {n : Nat} (h : ∀ i, i < n → f i = g i) : ct f n = ct g n := sm_congr (fun i hi => by rw [h i hi])
theorem ct_bm (f : Nat → Bool) (n : Nat) : ct (bm f n).testBit n = ct f n := ct_congr (fun i hi => by rw [bm_bit]; simp [hi])
theorem z_bc_all : ∀ m, m < 1024 → z_bc (nI m) = nI (ct m.testBit 10) := by decide +kernel
theorem bm_yes {f : Nat → Bool} {n : Nat} (h : f n = true) : bm f n ||| 2 ^ n = bm f (n + 1) := by
  have := Nat.two_pow_add_eq_or_of_lt (bm_lt f n) 1
  rw [Nat.mul_one] at this
  show bm f n ||| 2 ^ n = bm f n + (if f n = true then 2 ^ n else 0)
  rw [if_pos h, Nat.or_comm]
  omega
theorem bm_no {f : Nat → Bool} {n : Nat} (h : f n = false) : bm f (n + 1) = bm f n := by
  show bm f n + (if f n = true then 2 ^ n else 0) = bm f n
  rw [h]
  simp
/-- the reference's manyOf -/
theorem uX4_mo_loop {D : zM} {x0 : Int32} : ∀ (i left acc : Nat), left < 2 ^ i → i ≤ 20 → acc + i < 2 ^ 31 → z_Ok mX4_manyOf 4 [some (.int x0), some (.int (nI acc)), some (.int (nI left))] [] D (z_pi (z_va (nI (acc + ct left.testBit i)) D)) := by
  intro i
  induction i with
  | zero =>
    intro left acc h _ _
    have : left = 0 := by simpa using h
    subst this
    exact bX4_manyOf_4 (fun _ => ⟨rfl, rfl⟩) (fun q => absurd (show nI 0 ≤ 0 by decide) q)
  | succ i ih =>
    intro left acc h hi ha
    have hl : left < 2 ^ 20 := Nat.lt_of_lt_of_le h (Nat.pow_le_pow_right (by omega) hi)
    have h20 : (2 : Nat) ^ 20 = 1048576 := by decide
    by_cases h0 : left = 0
    · subst h0
      refine bX4_manyOf_4 (fun _ => ⟨rfl, ?_⟩) (fun q => absurd (show nI 0 ≤ 0 by decide) q)
      have : ct (Nat.testBit 0) (i + 1) = 0 := by
        unfold ct
        rw [sm_congr (g := fun _ => 0) (fun j _ => by simp), sm_zero]
      rw [this, Nat.add_zero]
    · refine bX4_manyOf_4 (fun q => absurd q ?_) (fun _ => ?_)
      · rw [n0, nI_leI (by omega) (by omega)]; omega
      · have e1 : nI left &&& 1 = nI (left % 2) := pk_andN (by omega) 1 (by decide)
        have e2 : nI left >>> (1 &&& 31) = nI (left / 2) := pk_shrN (by omega) _ 1 (by decide)
        rw [e1, e2, nI_add]
        have := ih (left / 2) (acc + left % 2) (by rw [Nat.pow_succ] at h; omega) (by omega) (by omega)
        have e3 : ct left.testBit (i + 1) = left % 2 + ct (left / 2).testBit i := by
          unfold ct
          rw [sm_shift]
          have e4 : (if left.testBit 0 = true then 1 else 0) = left % 2 := by
            rw [Nat.testBit_zero]
            have := Nat.mod_two_eq_zero_or_one left
            rcases this with q | q <;> simp [q]
          rw [e4]
          refine congrArg (left % 2 + ·) (sm_congr (fun j _ => ?_))
          rw [Nat.testBit_succ]
        rw [e3, ← Nat.add_assoc]
        exact this
theorem uX4_manyOf {D : zM} {m : Nat} (h : m < 1024) : z_Ci mX4_manyOf [.int (nI m)] D (z_va (nI (ct m.testBit 10)) D) := by
  refine bX4_manyOf_0 ?_
  have := uX4_mo_loop (D := D) (x0 := nI m) 10 m 0 h (by omega) (by omega)
  rw [Nat.zero_add] at this
  exact this
/-- the abstract: a walk less -/
theorem WF_less {s : zA} (hs : WF s) : WF (a_up s 0 0 (s 0 0 - 1)) := by
  refine ⟨?_, hs.2.1, hs.2.2.1, hs.2.2.2.1, fun k hk => hs.2.2.2.2.1 k ?_, hs.2.2.2.2.2.1, hs.2.2.2.2.2.2⟩
  · show s 0 0 - 1 ≤ 14
    have := hs.1
    omega
  · have : k < s 0 0 - 1 := hk
    omega
theorem oa_less {s : zA} (hs : WF s) (h0 : 0 < s 0 0) (p q : Nat) : oa (a_up s 0 0 (s 0 0 - 1)) p q = if mtp (s 1 (s 0 0 - 1)) (s 2 (s 0 0 - 1)) p q then false else oa s p q := by
  rw [Bool.eq_iff_iff, oa_iff (WF_less hs)]
  by_cases h : mtp (s 1 (s 0 0 - 1)) (s 2 (s 0 0 - 1)) p q = true
  · rw [if_pos h]
    constructor
    · rintro ⟨j, h1, h2, h3⟩
      have h1' : j < s 0 0 - 1 := h1
      have := mt_uniq hs (show j < s 0 0 by omega) (show s 0 0 - 1 < s 0 0 by omega) h2 h
      omega
    · intro q; cases q
  · rw [if_neg h, oa_iff hs]
    constructor
    · rintro ⟨j, h1, h2, h3⟩
      have h1' : j < s 0 0 - 1 := h1
      exact ⟨j, by omega, h2, h3⟩
    · rintro ⟨j, h1, h2, h3⟩
      have hj : j ≠ s 0 0 - 1 := fun e => h (by rw [← e]; exact h2)
      exact ⟨j, show j < s 0 0 - 1 by omega, h2, h3⟩
theorem ol_less {s : zA} (hs : WF s) (h0 : 0 < s 0 0) (p q : Nat) : ol (a_up s 0 0 (s 0 0 - 1)) p q = if mtp (s 1 (s 0 0 - 1)) (s 2 (s 0 0 - 1)) p q then 0 else ol s p q := by
  by_cases h : mtp (s 1 (s 0 0 - 1)) (s 2 (s 0 0 - 1)) p q = true
  · rw [if_pos h]
    apply ol_no
    rw [oa_less hs h0, if_pos h]
  · rw [if_neg h]
    cases ho : oa s p q with
    | false => rw [ol_no ho, ol_no (by rw [oa_less hs h0, if_neg h]; exact ho)]
    | true =>
      obtain ⟨j, h1, h2, h3⟩ := (oa_iff hs).mp ho
      have hj : j ≠ s 0 0 - 1 := fun e => h (by rw [← e]; exact h2)
      rw [ol_of hs h1 h2 h3, ol_of (WF_less hs) (k := j) (show j < s 0 0 - 1 by omega) h2 h3]
      rfl
theorem oa_self {s : zA} (hs : WF s) {k : Nat} (hk : k < s 0 0) : oa s (s 1 k) (s 2 k) = decide (s 4 k = 1) := by
  rw [Bool.eq_iff_iff, oa_iff hs]
  simp only [decide_eq_true_eq]
  constructor
  · rintro ⟨j, h1, h2, h3⟩
    have := mt_uniq hs h1 hk h2 (by rw [mt_mtp]; simp [mtp])
    rw [← this]; exact h3
  · intro h
    exact ⟨k, hk, by rw [mt_mtp]; simp [mtp], h⟩
set_option maxRecDepth 20000 in
theorem J_unwalk {D : zM} {s : zA} (h : zI D s) : z_Ci mX3_unwalk [.ref 0] D (zJ mX4_unwalk [.ref 46]) := by
  obtain ⟨hs, hM, hX⟩ := id h
  have h14 := hs.1
  have cX : 1 ≤ D 1 6 ↔ 1 ≤ s 0 0 := by rw [hX.1, n1, nI_leI (by omega) (by omega)]
  have cM : D 46 0 = 0 ↔ s 0 0 = 0 := by rw [hM.1, n0, nI_eq (by omega) (by omega)]
  refine bX3_unwalk_0 (fun a => ?_) (fun a => ?_)
  · have h1 := cX.mp a
    obtain ⟨w, hw⟩ : ∃ w, s 0 0 = w + 1 := ⟨s 0 0 - 1, by omega⟩
    have ew : D 1 6 - 1 = nI w := by rw [hX.1, hw, nI_pred]
    have eq1 : s 0 0 - 1 = w := by omega
    obtain ⟨f1, f2, f3, f4⟩ := hX.2.2.2.2.1 w (by omega)
    obtain ⟨g1, g2, g3, g4, g5, g6⟩ := hs.2.2.2.2.1 w (by omega)
    refine sX3_unwalk_18 (Q := fun r E => r = nI w ∧ IX E (a_up s 0 0 w) ∧ ∀ q, 46 ≤ q → E q = D q) ?_ (fun r D1 hr => bX3_unwalk_21 ?_)
    · refine bX0_removeLast_0 ?_
      rw [ew]
      refine sX0_removeLast_8 (uX0_turn (v := 0) (by omega) f1 f2 f3 f4 g5 (by omega) (by omega) g2 (by omega)) (fun r D1 hr => bX0_removeLast_11 ?_)
      have hoa := fun p q => oa_less hs h1 p q
      have hol := fun p q => ol_less hs h1 p q
      rw [eq1] at hoa hol
      have hself := oa_self hs (show w < s 0 0 by omega)
      rcases hr with ⟨e1, -, rfl⟩ | ⟨e1, -, rfl⟩
      · rw [ew]
        rw [show decide (s 4 w = 1) = false by rw [e1]; rfl] at hself
        have kk : ∀ p q, mtp (s 1 w) (s 2 w) p q = true → oa s p q = false := by
          intro p q hpq
          rcases mtp_iff.mp hpq with ⟨rfl, rfl⟩ | ⟨rfl, rfl⟩
          · exact hself
          · rw [oa_comm]; exact hself
        refine ⟨rfl, ⟨?_, hX.2.1, hX.2.2.1, hX.2.2.2.1, fun k hk => hX.2.2.2.2.1 k ?_, hX.2.2.2.2.2.1, fun p hp n hn => ?_, fun p hp => ?_, fun p hp q hq => ?_⟩, fun q hq => z_up_ne (by omega)⟩
        · rw [z_up_eq]; rfl
        · have : k < w := hk
          omega
        · rw [z_up_ne (by omega)]; exact hX.2.2.2.2.2.2.1 p hp n hn
        · rw [z_up_ne (by omega), hX.2.2.2.2.2.2.2.1 p hp]
          refine congrArg nI (bm_congr (fun q hq => ?_))
          rw [hoa]
          split
          · exact kk _ _ (by assumption)
          · rfl
        · rw [z_up_ne (by omega), hX.2.2.2.2.2.2.2.2 p hp q hq, hol]
          split
          · rw [ol_no (kk _ _ (by assumption))]
          · rfl
      · rw [show decide (s 4 w = 1) = true from decide_eq_true (by omega)] at hself
        have hNL := tuE_NL (k := w) (v := 0) (l := 0) (IX_NL hX) (show s 1 w < 10 by omega) g2 (by omega) false hself (by rw [oa_comm]; exact hself)
        rw [if_neg (show ¬ (0 : Nat) = 1 by omega)]
        have em : ∀ q, q < 5 → tuE D w 0 (s 1 w) (s 2 w) (nI 0) q = D q := fun q hq => tuE_ne (by omega) g2 (by omega)
        have eM : ∀ q, 18 ≤ q → tuE D w 0 (s 1 w) (s 2 w) (nI 0) q = D q := fun q hq => tuE_ne (by omega) g2 (by omega)
        rw [em 1 (by omega), ew]
        refine ⟨rfl, ⟨?_, ?_, ?_, ?_, fun k hk => ?_, fun n hn => ?_, fun p hp n hn => ?_, fun p hp => ?_, fun p hp q hq => ?_⟩, fun q hq => by rw [z_up_ne (by omega), eM q (by omega)]⟩
        · rw [z_up_eq]; rfl
        · rw [z_up_ne (by omega), em 0 (by omega)]; exact hX.2.1
        · rw [z_up_ne (by omega), em 0 (by omega)]; exact hX.2.2.1
        · rw [z_up_ne (by omega), em 0 (by omega)]; exact hX.2.2.2.1
        · have hk' : k < w := hk
          rw [z_up_ne (show 2 ≠ 1 by omega), z_up_ne (show 3 ≠ 1 by omega), z_up_ne (show 4 ≠ 1 by omega), z_up_ne (show 5 ≠ 1 by omega), em 2 (by omega), em 3 (by omega), em 4 (by omega), tuE_5]
          obtain ⟨b1, b2, b3, b4⟩ := hX.2.2.2.2.1 k (by omega)
          refine ⟨b1, b2, b3, ?_⟩
          have : k ≠ w := by omega
          simp [upd, this]
          exact b4
        · rw [z_up_ne (by omega), eM 38 (by omega)]; exact hX.2.2.2.2.2.1 n hn
        · rw [z_up_ne (by omega), eM (40 + n) (by omega)]; exact hX.2.2.2.2.2.2.1 p hp n hn
        · rw [z_up_ne (by omega), hNL.1 p hp]
          exact congrArg nI (bm_congr (fun q hq => (hoa p q).symm))
        · rw [z_up_ne (by omega), hNL.2 p hp q hq, hol]
    · obtain ⟨rfl, hX2, hk⟩ := hr
      have hwl := WF_less hs
      rw [eq1] at hwl
      have e46 : D1 46 0 - 1 = nI w := by rw [hk 46 (by omega), hM.1, hw, nI_pred]
      refine bX4_unwalk_0 (fun _ => ?_) (fun q => absurd (cM.mp (by rw [← hk 46 (by omega)]; exact q)) (by omega))
      rw [e46]
      refine ⟨rfl, a_up s 0 0 w, hwl, ⟨?_, ?_, ?_, ?_, fun k hk2 => ?_, fun n hn => ?_, fun t ht => ?_⟩, hX2.ag (ps := [46]) (ks := []) ⟨fun t h1 h2 => z_up_ne (by simpa using h2), fun k _ => by rw [z_up_ne (by omega)]⟩ (by decide) (by decide)⟩
      · rw [z_up_eq]; rfl
      · rw [z_up_k (by omega), hk 46 (by omega)]; exact hM.2.1
      · rw [z_up_k (by omega), hk 46 (by omega)]; exact hM.2.2.1
      · rw [z_up_k (by omega), hk 46 (by omega)]; exact hM.2.2.2.1
      · have : k < w := hk2
        rw [z_up_ne (show 47 ≠ 46 by omega), z_up_ne (show 48 ≠ 46 by omega), z_up_ne (show 49 ≠ 46 by omega), z_up_ne (show 50 ≠ 46 by omega), hk 47 (by omega), hk 48 (by omega), hk 49 (by omega), hk 50 (by omega)]
        exact hM.2.2.2.2.1 k (by omega)
      · rw [z_up_ne (by omega), hk 51 (by omega)]; exact hM.2.2.2.2.2.1 n hn
      · rw [z_up_ne (by omega), hk 52 (by omega)]; exact hM.2.2.2.2.2.2 t ht
  · have : s 0 0 = 0 := by have : ¬ 1 ≤ s 0 0 := fun q => a (cX.mpr q); omega
    exact bX4_unwalk_0 (fun q => absurd (cM.mpr this) q) (fun _ => ⟨rfl, s, h⟩)
