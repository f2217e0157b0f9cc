/-! A WALK MORE, A WALK LESS -/
def a_new (s : zA) (lo hi l : Nat) : zA := a_up (a_up (a_up (a_up (a_up s 1 (s 0 0) lo) 2 (s 0 0) hi) 3 (s 0 0) l) 4 (s 0 0) 1) 0 0 (s 0 0 + 1)
theorem a_new_0 (s : zA) (lo hi l : Nat) : a_new s lo hi l 0 0 = s 0 0 + 1 := rfl
theorem a_new_at (s : zA) (lo hi l : Nat) : a_new s lo hi l 1 (s 0 0) = lo ∧ a_new s lo hi l 2 (s 0 0) = hi ∧ a_new s lo hi l 3 (s 0 0) = l ∧ a_new s lo hi l 4 (s 0 0) = 1 := by simp [a_new, a_up]
theorem a_new_old {s : zA} {lo hi l k : Nat} (h : k < s 0 0) : a_new s lo hi l 1 k = s 1 k ∧ a_new s lo hi l 2 k = s 2 k ∧ a_new s lo hi l 3 k = s 3 k ∧ a_new s lo hi l 4 k = s 4 k := by
  have : k ≠ s 0 0 := by omega
  simp [a_new, a_up, this]
theorem WF_new {s : zA} (hs : WF s) {lo hi l : Nat} (h14 : s 0 0 < 14) (h1 : lo < hi) (h2 : hi < 10) (h3 : 1 ≤ l) (h4 : l ≤ 99) (hn : wbt s lo hi = none) : WF (a_new s lo hi l) := by
  refine ⟨h14, hs.2.1, hs.2.2.1, hs.2.2.2.1, fun k hk => ?_, hs.2.2.2.2.2.1, hs.2.2.2.2.2.2⟩
  have hk' : k < s 0 0 + 1 := hk
  by_cases e : k = s 0 0
  · subst e
    obtain ⟨a1, a2, a3, a4⟩ := a_new_at s lo hi l
    rw [a1, a2, a3, a4]
    refine ⟨h1, h2, h3, h4, by omega, fun j hj => ?_⟩
    obtain ⟨b1, b2, -, -⟩ := a_new_old (lo := lo) (hi := hi) (l := l) hj
    rw [b1, b2]
    intro q
    have := z_fst_none hn j (Nat.zero_le _) (by omega)
    rw [mt_mtp, q.1, q.2] at this
    simp [mtp] at this
  · have hk2 : k < s 0 0 := by omega
    obtain ⟨a1, a2, a3, a4⟩ := a_new_old (lo := lo) (hi := hi) (l := l) hk2
    rw [a1, a2, a3, a4]
    obtain ⟨c1, c2, c3, c4, c5, c6⟩ := hs.2.2.2.2.1 k hk2
    refine ⟨c1, c2, c3, c4, c5, fun j hj => ?_⟩
    obtain ⟨b1, b2, -, -⟩ := a_new_old (lo := lo) (hi := hi) (l := l) (show j < s 0 0 by omega)
    rw [b1, b2]
    exact c6 j hj
theorem mt_new {s : zA} {lo hi l p q k : Nat} (h : k < s 0 0) : mt (a_new s lo hi l) p q k = mt s p q k := by
  obtain ⟨a1, a2, -, -⟩ := a_new_old (lo := lo) (hi := hi) (l := l) h
  rw [mt_mtp, mt_mtp, a1, a2]
theorem oa_new {s : zA} (hs : WF s) {lo hi l : Nat} (hw : WF (a_new s lo hi l)) (p q : Nat) : oa (a_new s lo hi l) p q = if mtp lo hi p q then true else oa s p q := by
  obtain ⟨a1, a2, a3, a4⟩ := a_new_at s lo hi l
  rw [Bool.eq_iff_iff, oa_iff hw]
  by_cases h : mtp lo hi p q = true
  · rw [if_pos h]
    simp only [iff_true]
    exact ⟨s 0 0, by rw [a_new_0]; omega, by rw [mt_mtp, a1, a2]; exact h, a4⟩
  · rw [if_neg h, oa_iff hs]
    constructor
    · rintro ⟨j, h1, h2, h3⟩
      rw [a_new_0] at h1
      have hj : j ≠ s 0 0 := fun e => h (by rw [e, mt_mtp, a1, a2] at h2; exact h2)
      have hj2 : j < s 0 0 := by omega
      rw [mt_new hj2] at h2
      rw [(a_new_old hj2).2.2.2] at h3
      exact ⟨j, hj2, h2, h3⟩
    · rintro ⟨j, h1, h2, h3⟩
      exact ⟨j, by rw [a_new_0]; omega, by rw [mt_new h1]; exact h2, by rw [(a_new_old h1).2.2.2]; exact h3⟩
theorem ol_new {s : zA} (hs : WF s) {lo hi l : Nat} (hw : WF (a_new s lo hi l)) (p q : Nat) : ol (a_new s lo hi l) p q = if mtp lo hi p q then l else ol s p q := by
  obtain ⟨a1, a2, a3, a4⟩ := a_new_at s lo hi l
  by_cases h : mtp lo hi p q = true
  · rw [if_pos h, ol_of hw (k := s 0 0) (by rw [a_new_0]; omega) (by rw [mt_mtp, a1, a2]; exact h) a4, a3]
  · rw [if_neg h]
    cases ho : oa s p q with
    | false => rw [ol_no ho, ol_no (by rw [oa_new hs hw, if_neg h]; exact ho)]
    | true =>
      obtain ⟨j, h1, h2, h3⟩ := (oa_iff hs).mp ho
      rw [ol_of hs h1 h2 h3, ol_of hw (k := j) (by rw [a_new_0]; omega) (by rw [mt_new h1]; exact h2) (by rw [(a_new_old h1).2.2.2]; exact h3), (a_new_old h1).2.2.1]
theorem wbt_mm {s : zA} (a b : Nat) : wbt s (min a b) (max a b) = wbt s a b := by
  by_cases h : a ≤ b
  · rw [Nat.min_eq_left h, Nat.max_eq_right h]
  · rw [Nat.min_eq_right (by omega), Nat.max_eq_left (by omega), wbt_comm]
set_option maxRecDepth 20000 in
theorem uX0_add {D : zM} {s : zA} (hs : WF s) (hX : IX D s) {a b l : Nat} (ha : a < 10) (hb : b < 10) (hab : a ≠ b) (h3 : 1 ≤ l) (h4 : l ≤ 99) (h14 : s 0 0 < 14) (hn : wbt s a b = none) :
    z_Ci mX0_add [.ref 1, .int (nI a), .int (nI b), .int (nI l)] D (fun r E => r = nI (s 0 0) ∧ IX E (a_new s (min a b) (max a b) l) ∧ ∀ q, 46 ≤ q → E q = D q) := by
  have eX := hX.1
  have e0 : (nI (s 0 0)).toNatClampNeg = s 0 0 := nI_clamp (by omega)
  have hw := WF_new hs (lo := min a b) (hi := max a b) (l := l) h14 (by omega) (by omega) h3 h4 (by rw [wbt_mm]; exact hn)
  refine bX0_add_0 (by rw [eX]; exact vp_in_nI h14 (by omega)) ?_
  rw [z_min a b ha hb, z_max a b ha hb, eX, e0]
  generalize hE : z_up (z_up (z_up (z_up (z_up D 1 6 (nI (s 0 0) + 1)) 2 (s 0 0) (nI (min a b))) 3 (s 0 0) (nI (max a b))) 4 (s 0 0) (nI l)) 5 (s 0 0) 0 = E
  have eo : ∀ q, q = 0 ∨ 5 < q → E q = D q := fun q hq => by rw [← hE, z_up_ne (by omega), z_up_ne (by omega), z_up_ne (by omega), z_up_ne (by omega), z_up_ne (by omega)]
  have e2 : E 2 = upd (D 2) (s 0 0) (nI (min a b)) := by rw [← hE, z_up_ne (by omega), z_up_ne (by omega), z_up_ne (by omega)]; unfold z_up; rw [z_row_eq, z_row_ne (by omega)]
  have e3 : E 3 = upd (D 3) (s 0 0) (nI (max a b)) := by rw [← hE, z_up_ne (by omega), z_up_ne (by omega)]; unfold z_up; rw [z_row_eq, z_row_ne (by omega), z_row_ne (by omega)]
  have e4 : E 4 = upd (D 4) (s 0 0) (nI l) := by rw [← hE, z_up_ne (by omega)]; unfold z_up; rw [z_row_eq, z_row_ne (by omega), z_row_ne (by omega), z_row_ne (by omega)]
  have e5 : E 5 = upd (D 5) (s 0 0) 0 := by rw [← hE]; unfold z_up; rw [z_row_eq, z_row_ne (by omega), z_row_ne (by omega), z_row_ne (by omega), z_row_ne (by omega)]
  have e1 : E 1 6 = nI (s 0 0 + 1) := by rw [← hE, z_up_ne (by omega), z_up_ne (by omega), z_up_ne (by omega), z_up_ne (by omega), z_up_eq, nI_succ]
  have u : ∀ (f : Nat → Int32) (v : Int32), upd f (s 0 0) v (s 0 0) = v := fun f v => by simp [upd]
  have hTN := uX0_turn (D := E) (k := s 0 0) (o := 0) (v := 1) (a := min a b) (b := max a b) (l := l) h14 (by rw [e2, u]) (by rw [e3, u]) (by rw [e4, u]) (by rw [e5, u]; rfl) (by omega) (by omega) (by omega) (by omega) (by omega)
  refine sX0_add_60 hTN (fun r D1 hr => bX0_add_63 ?_)
  rcases hr with ⟨q, -, -⟩ | ⟨-, -, rfl⟩
  · cases q
  rw [if_pos rfl]
  have no : oa s (min a b) (max a b) = false := by
    unfold oa obt
    rw [wbt_mm, hn]
    rfl
  have hNL := tuE_NL (D := E) (k := s 0 0) (v := 1) (l := l) (a := min a b) (b := max a b) ((IX_NL hX).same (fun q hq => eo q (by omega)) (fun _ _ _ _ => rfl) (fun _ _ _ _ => rfl)) (by omega) (by omega) (by omega) true no (by rw [oa_comm]; exact no)
  have eM : ∀ q, 18 ≤ q → tuE E (s 0 0) 1 (min a b) (max a b) (nI l) q = D q := fun q hq => (tuE_ne (by omega) (by omega) (by omega)).trans (eo q (by omega))
  have em : ∀ q, q < 5 → tuE E (s 0 0) 1 (min a b) (max a b) (nI l) q = E q := fun q hq => tuE_ne (by omega) (by omega) (by omega)
  refine ⟨rfl, ⟨?_, ?_, ?_, ?_, fun k hk => ?_, fun n hn => ?_, fun p hp n hn => ?_, fun p hp => ?_, fun p hp q hq => ?_⟩, fun q hq => eM q (by omega)⟩
  · rw [em 1 (by omega), e1]; rfl
  · rw [em 0 (by omega), eo 0 (by omega)]; exact hX.2.1
  · rw [em 0 (by omega), eo 0 (by omega)]; exact hX.2.2.1
  · rw [em 0 (by omega), eo 0 (by omega)]; exact hX.2.2.2.1
  · rw [em 2 (by omega), em 3 (by omega), em 4 (by omega), tuE_5, e2, e3, e4, e5]
    have hk' : k < s 0 0 + 1 := hk
    by_cases e : k = s 0 0
    · subst e
      obtain ⟨a1, a2, a3, a4⟩ := a_new_at s (min a b) (max a b) l
      rw [a1, a2, a3, a4]
      simp [upd]
    · obtain ⟨a1, a2, a3, a4⟩ := a_new_old (lo := min a b) (hi := max a b) (l := l) (show k < s 0 0 by omega)
      rw [a1, a2, a3, a4]
      simp [upd, e]
      exact hX.2.2.2.2.1 k (by omega)
  · rw [eM 38 (by omega)]; exact hX.2.2.2.2.2.1 n hn
  · rw [eM (40 + n) (by omega)]; exact hX.2.2.2.2.2.2.1 p hp n hn
  · rw [hNL.1 p hp]
    exact congrArg nI (bm_congr (fun q hq => (oa_new hs hw p q).symm))
  · rw [hNL.2 p hp q hq, ol_new hs hw]
theorem z_wi_99 {x : Int32} : z_wi x 1 99 ↔ ∃ l : Nat, 1 ≤ l ∧ l ≤ 99 ∧ x = nI l := by
  unfold z_wi
  rw [Int32.le_iff_toInt_le, Int32.le_iff_toInt_le, show (1 : Int32).toInt = 1 by decide, show (99 : Int32).toInt = 99 by decide]
  constructor
  · rintro ⟨h1, h2⟩
    refine ⟨x.toInt.toNat, by omega, by omega, ?_⟩
    apply Int32.toInt_inj.mp
    rw [nI_toInt (by omega)]
    omega
  · rintro ⟨l, h1, h2, rfl⟩
    rw [nI_toInt (by omega)]
    omega
theorem z_99_wi {x : Int32} : (¬ x < 1 ∧ x ≤ 99) ↔ z_wi x 1 99 := by
  unfold z_wi
  rw [Int32.not_lt]
set_option maxRecDepth 20000 in
theorem J_walk {D : zM} {s : zA} (h : zI D s) (x y z : Int32) : z_Ci mX3_walk [.ref 0, .int x, .int y, .int z] D (zJ mX4_walk [.ref 46, .int x, .int y, .int z]) := by
  obtain ⟨hs, hM, hX⟩ := id h
  have h14 := hs.1
  have f1 : ¬ (vp_in x 10 ∧ vp_in y 10 ∧ ¬ x = y) → zJ mX4_walk [.ref 46, .int x, .int y, .int z] (-1) D := fun hn => bX4_walk_0 (fun a b c _ => absurd ⟨a, b, c⟩ hn) (fun a b c _ => absurd ⟨a, b, c⟩ hn) (fun _ _ _ => ⟨rfl, s, h⟩) (fun _ _ => ⟨rfl, s, h⟩) (fun _ => ⟨rfl, s, h⟩)
  have f2 : vp_in x 10 → vp_in y 10 → ¬ x = y → ¬ z_wi z 1 99 → zJ mX4_walk [.ref 46, .int x, .int y, .int z] (-2) D := fun a b c d => bX4_walk_0 (fun _ _ _ q => absurd q d) (fun _ _ _ _ => ⟨rfl, s, h⟩) (fun _ _ q => absurd q c) (fun _ q => absurd b q) (fun q => absurd a q)
  refine bX3_walk_0 (fun a b c d => f2 a b c (fun q => (z_99_wi.mpr q).1 d)) (fun a b c d e => ?_) (fun a b c d e => f2 a b c (fun q => e (z_99_wi.mpr q).2)) (fun a b c => f1 (fun q => q.2.2 c)) (fun a b => f1 (fun q => b q.2.1)) (fun a => f1 (fun q => a q.1))
  have hz := z_99_wi.mp ⟨d, e⟩
  obtain ⟨l, hl1, hl2, rfl⟩ := z_wi_99.mp hz
  obtain ⟨p, hp, rfl, hp2⟩ := z_inN a
  obtain ⟨q, hq, rfl, hq2⟩ := z_inN b
  have hpq : p ≠ q := fun e => c (by rw [e])
  have cX : D 1 6 < 14 ↔ s 0 0 < 14 := by rw [hX.1, n14, nI_ltI (by omega) (by omega)]
  have cM : D 46 0 = 14 ↔ s 0 0 = 14 := by rw [hM.1, n14, nI_eq (by omega) (by omega)]
  have begin : ∀ {E : zM} {r : Int32}, z_Ok mX4_walk 37 [some (.ref 46), some (.int (nI p)), some (.int (nI q)), some (.int (nI l))] [.int (nI q), .int (nI p), .ref 46] E (z_pi (fun r2 D2 => r2 = r ∧ ∃ s, zI D2 s)) → zJ mX4_walk [.ref 46, .int (nI p), .int (nI q), .int (nI l)] r E := fun k => bX4_walk_0 (fun _ _ _ _ => k) (fun _ _ _ z => absurd hz z) (fun _ _ z => absurd z c) (fun _ z => absurd b z) (fun z => absurd a z)
  refine sX3_walk_41 (uX0_joins hX hs hp hq) (fun r D1 hr => ?_)
  obtain ⟨rfl, rfl⟩ := hr
  refine bX3_walk_44 (fun g g2 => ?_) (fun g g2 => ?_) (fun g => ?_)
  · have hno : wbt s p q = none := by
      have := (bI_0 _).mp g
      cases hh : wbt s p q with
      | none => rfl
      | some k => rw [hh] at this; cases this
    refine sX3_walk_72 (uX0_add hs hX hp hq hpq hl1 hl2 (cX.mp g2) hno) (fun r D2 hr => bX3_walk_75 ?_)
    obtain ⟨rfl, hX2, hk⟩ := hr
    have hw := WF_new hs (lo := min p q) (hi := max p q) (l := l) (cX.mp g2) (by omega) (by omega) hl1 hl2 (by rw [wbt_mm]; exact hno)
    have hM2 : IM D2 s := hM.ag (ps := List.range 46) (ks := []) ⟨fun t h1 h2 => hk t (by
      have : ¬ t < 46 := fun z => h2 (List.mem_range.mpr z)
      omega), fun k _ => by rw [hk 46 (by omega)]⟩ (by decide) (by decide)
    refine begin (sX4_walk_37 (uX4_walkBetween hM2 hs hp hq) (fun r D3 hr => ?_))
    obtain ⟨rfl, rfl⟩ := hr
    have cM2 : D3 46 0 = 14 ↔ s 0 0 = 14 := by rw [hM2.1, n14, nI_eq (by omega) (by omega)]
    have e46 : (D3 46 0).toNatClampNeg = s 0 0 := by rw [hM2.1]; exact nI_clamp (by omega)
    have lq : nI q ≤ nI p ↔ q ≤ p := nI_leI (by omega) (by omega)
    have fin : ∀ (lo hi : Nat), lo = min p q → hi = max p q → zI (z_up (z_up (z_up (z_up (z_up D3 47 (s 0 0) (nI lo)) 48 (s 0 0) (nI hi)) 49 (s 0 0) (nI l)) 50 (s 0 0) 1) 46 0 (D3 46 0 + 1)) (a_new s (min p q) (max p q) l) := by
      intro lo hi h1 h2
      subst h1; subst h2
      generalize hF : z_up (z_up (z_up (z_up (z_up D3 47 (s 0 0) (nI (min p q))) 48 (s 0 0) (nI (max p q))) 49 (s 0 0) (nI l)) 50 (s 0 0) 1) 46 0 (D3 46 0 + 1) = F
      have eo : ∀ t, t < 46 ∨ 50 < t → F t = D3 t := fun t ht => by rw [← hF, z_up_ne (by omega), z_up_ne (by omega), z_up_ne (by omega), z_up_ne (by omega), z_up_ne (by omega)]
      have e47 : F 47 = upd (D3 47) (s 0 0) (nI (min p q)) := by rw [← hF, z_up_ne (by omega), z_up_ne (by omega), z_up_ne (by omega), z_up_ne (by omega)]; unfold z_up; rw [z_row_eq]
      have e48 : F 48 = upd (D3 48) (s 0 0) (nI (max p q)) := by rw [← hF, z_up_ne (by omega), z_up_ne (by omega), z_up_ne (by omega)]; unfold z_up; rw [z_row_eq, z_row_ne (by omega)]
      have e49 : F 49 = upd (D3 49) (s 0 0) (nI l) := by rw [← hF, z_up_ne (by omega), z_up_ne (by omega)]; unfold z_up; rw [z_row_eq, z_row_ne (by omega), z_row_ne (by omega)]
      have e50 : F 50 = upd (D3 50) (s 0 0) 1 := by rw [← hF, z_up_ne (by omega)]; unfold z_up; rw [z_row_eq, z_row_ne (by omega), z_row_ne (by omega), z_row_ne (by omega)]
      have e460 : F 46 0 = nI (s 0 0 + 1) := by rw [← hF, z_up_eq, hM2.1, nI_succ]
      have e46k : ∀ k, k ≠ 0 → F 46 k = D3 46 k := fun k hk => by rw [← hF, z_up_k hk, z_up_ne (by omega), z_up_ne (by omega), z_up_ne (by omega), z_up_ne (by omega)]
      refine ⟨hw, ⟨e460, ?_, ?_, ?_, fun k hk => ?_, fun n hn => ?_, fun t ht => ?_⟩, hX2.ag (ps := List.range 59 |>.filter (fun t => decide (46 ≤ t))) (ks := []) ⟨fun t h1 h2 => ?_, fun k _ => by rw [eo 0 (by omega)]⟩ (by decide) (by decide)⟩
      · rw [e46k 5 (by omega)]; exact hM2.2.1
      · rw [e46k 7 (by omega)]; exact hM2.2.2.1
      · rw [e46k 8 (by omega)]; exact hM2.2.2.2.1
      · rw [e47, e48, e49, e50]
        have hk' : k < s 0 0 + 1 := hk
        by_cases e : k = s 0 0
        · subst e
          obtain ⟨a1, a2, a3, a4⟩ := a_new_at s (min p q) (max p q) l
          rw [a1, a2, a3, a4]
          simp [upd]
          rfl
        · obtain ⟨a1, a2, a3, a4⟩ := a_new_old (lo := min p q) (hi := max p q) (l := l) (show k < s 0 0 by omega)
          rw [a1, a2, a3, a4]
          simp [upd, e]
          exact hM2.2.2.2.2.1 k (by omega)
      · rw [eo 51 (by omega)]; exact hM2.2.2.2.2.2.1 n hn
      · rw [eo 52 (by omega)]; exact hM2.2.2.2.2.2.2 t ht
      · by_cases hlt : t < 46 ∨ 50 < t
        · exact eo t hlt
        · exact absurd (List.mem_filter.mpr ⟨List.mem_range.mpr (by omega), decide_eq_true (by omega)⟩) h2
    have lo14 : vp_in (D3 46 0) 14 := by rw [hM2.1]; exact vp_in_nI (cX.mp g2) (by omega)
    have hr : D3 46 0 + 1 - 1 = nI (s 0 0) := by rw [hM2.1, ← nI_succ, nI_pred]
    have hno2 : oI (wbt s p q) = -9 := (oI_wbt hs).mpr (by rw [hno]; rfl)
    refine bX4_walk_40 (fun _ _ _ => lo14) (fun _ _ _ => lo14) (fun _ _ z => ?_) (fun _ _ z => ?_) (fun _ z => absurd (cM2.mp z) (by have := cX.mp g2; omega)) (fun z => absurd hno2 z)
    · rw [e46]
      exact ⟨hr, _, fin q p (by have := lq.mp z; omega) (by have := lq.mp z; omega)⟩
    · rw [e46]
      have z' : ¬ q ≤ p := fun w => z (lq.mpr w)
      exact ⟨hr, _, fin p q (by omega) (by omega)⟩
  · refine begin (sX4_walk_37 (uX4_walkBetween hM hs hp hq) (fun r D3 hr => ?_))
    obtain ⟨rfl, rfl⟩ := hr
    have hno2 : oI (wbt s p q) = -9 := (oI_wbt hs).mpr ((bI_0 _).mp g)
    have : s 0 0 = 14 := by have : ¬ s 0 0 < 14 := fun z => g2 (cX.mpr z); omega
    exact bX4_walk_40 (fun _ z => absurd (cM.mpr this) z) (fun _ z => absurd (cM.mpr this) z) (fun _ z => absurd (cM.mpr this) z) (fun _ z => absurd (cM.mpr this) z) (fun _ _ => ⟨rfl, s, h⟩) (fun z => absurd hno2 z)
  · refine begin (sX4_walk_37 (uX4_walkBetween hM hs hp hq) (fun r D3 hr => ?_))
    obtain ⟨rfl, rfl⟩ := hr
    have hno2 : ¬ oI (wbt s p q) = -9 := fun z => g ((bI_0 _).mpr ((oI_wbt hs).mp z))
    exact bX4_walk_40 (fun z => absurd z hno2) (fun z => absurd z hno2) (fun z => absurd z hno2) (fun z => absurd z hno2) (fun z => absurd z hno2) (fun _ => ⟨rfl, s, h⟩)
