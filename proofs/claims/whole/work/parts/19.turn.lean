/-! OPENING, CLOSING, MAKING, REMOVING A WALK -/
def mtp (a b p q : Nat) : Bool := (a == p && b == q) || (a == q && b == p)
theorem mtp_iff {a b p q : Nat} : mtp a b p q = true ↔ (a = p ∧ b = q) ∨ (a = q ∧ b = p) := by simp [mtp]
theorem mt_mtp (s : zA) (p q k : Nat) : mt s p q k = mtp (s 1 k) (s 2 k) p q := rfl
/-- who is next to whom, and by how long a walk, as the class has it -/
def NL (D : zM) (g : Nat → Nat → Bool) (L : Nat → Nat → Nat) : Prop := (∀ p, p < 10 → D 6 p = nI (bm (g p) 10)) ∧ ∀ p, p < 10 → ∀ q, q < 10 → D (8 + p) q = nI (L p q)
theorem NL.same {D E : zM} {g g' : Nat → Nat → Bool} {L L' : Nat → Nat → Nat} (h : NL D g L) (hD : ∀ q, q = 6 ∨ (8 ≤ q ∧ q < 18) → E q = D q) (hg : ∀ p q, p < 10 → q < 10 → g' p q = g p q) (hL : ∀ p q, p < 10 → q < 10 → L' p q = L p q) : NL E g' L' := by
  refine ⟨fun p hp => ?_, fun p hp q hq => ?_⟩
  · rw [hD 6 (by omega), h.1 p hp, bm_congr (fun q hq => hg p q hp hq)]
  · rw [hD (8 + p) (by omega), h.2 p hp q hq, hL p q hp hq]
/-- what turn leaves -/
def tuE (D : zM) (k v a b : Nat) (l : Int32) : zM :=
  z_up (z_up (z_up (z_up (z_up D 5 k (nI v)) 6 a (D 6 a ^^^ nI (2 ^ b))) 6 b (D 6 b ^^^ nI (2 ^ a))) (8 + a) b l) (8 + b) a l
theorem tuE_NL {D : zM} {g : Nat → Nat → Bool} {L : Nat → Nat → Nat} {k v a b l : Nat} (h : NL D g L) (ha : a < 10) (hb : b < 10) (hab : a ≠ b) (x : Bool) (h1 : g a b = !x) (h2 : g b a = !x) : NL (tuE D k v a b (nI l)) (fun p q => if mtp a b p q then x else g p q) (fun p q => if mtp a b p q then l else L p q) := by
  refine ⟨fun p hp => ?_, fun p hp q hq => ?_⟩
  · unfold tuE
    rw [z_up_ne (by omega), z_up_ne (by omega)]
    by_cases e1 : p = b
    · subst e1
      rw [z_up_eq, h.1 p hp, nb_xor, bm_xor _ ha]
      refine congrArg nI (bm_congr (fun q hq => ?_))
      by_cases e2 : q = a
      · subst e2
        simp [mtp, h2]
      · have : mtp a p p q = false := by simp [mtp, Ne.symm e2, hab]
        simp [e2, this]
    · rw [z_up_k e1]
      by_cases e3 : p = a
      · subst e3
        rw [z_up_eq, h.1 p hp, nb_xor, bm_xor _ hb]
        refine congrArg nI (bm_congr (fun q hq => ?_))
        by_cases e2 : q = b
        · subst e2
          simp [mtp, h1]
        · have : mtp p b p q = false := by simp [mtp, Ne.symm e2, Ne.symm hab]
          simp [e2, this]
      · rw [z_up_k e3, z_up_ne (by omega), h.1 p hp]
        refine congrArg nI (bm_congr (fun q hq => ?_))
        have : mtp a b p q = false := by simp [mtp, Ne.symm e1, Ne.symm e3]
        simp [this]
  · unfold tuE
    by_cases e1 : p = b
    · subst e1
      by_cases e2 : q = a
      · subst e2
        rw [z_up_eq]
        simp [mtp]
      · rw [z_up_k e2, z_up_ne (by omega), z_up_ne (by omega), z_up_ne (by omega), z_up_ne (by omega), h.2 p hp q hq]
        have : mtp a p p q = false := by simp [mtp, Ne.symm e2, hab]
        simp [this]
    · rw [z_up_ne (by omega)]
      by_cases e3 : p = a
      · subst e3
        by_cases e2 : q = b
        · subst e2
          rw [z_up_eq]
          simp [mtp]
        · rw [z_up_k e2, z_up_ne (by omega), z_up_ne (by omega), z_up_ne (by omega), h.2 p hp q hq]
          have : mtp p b p q = false := by simp [mtp, Ne.symm e2, Ne.symm hab]
          simp [this]
      · rw [z_up_ne (by omega), z_up_ne (by omega), z_up_ne (by omega), z_up_ne (by omega), h.2 p hp q hq]
        have : mtp a b p q = false := by simp [mtp, Ne.symm e1, Ne.symm e3]
        simp [this]
theorem tuE_ne {D : zM} {k v a b q : Nat} {l : Int32} (ha : a < 10) (hb : b < 10) (h : q ≠ 5 ∧ q ≠ 6 ∧ (q < 8 ∨ 18 ≤ q)) : tuE D k v a b l q = D q := by
  unfold tuE
  rw [z_up_ne (by omega), z_up_ne (by omega), z_up_ne (by omega), z_up_ne (by omega), z_up_ne (by omega)]
theorem tuE_5 {D : zM} {k v a b : Nat} {l : Int32} : tuE D k v a b l 5 = upd (D 5) k (nI v) := by
  unfold tuE
  rw [z_up_ne (by omega), z_up_ne (by omega), z_up_ne (by omega), z_up_ne (by omega)]
  unfold z_up
  rw [z_row_eq]
set_option maxRecDepth 20000 in
theorem uX0_turn {D : zM} {k o v a b l : Nat} (hk : k < 14) (h2 : D 2 k = nI a) (h3 : D 3 k = nI b) (h4 : D 4 k = nI l) (h5 : D 5 k = nI o) (ho : o ≤ 1) (hv : v ≤ 1) (ha : a < 10) (hb : b < 10) (hab : a ≠ b) :
    z_Ci mX0_turn [.ref 1, .int (nI k), .int (nI v)] D (fun r E => (o = v ∧ r = 0 ∧ E = D) ∨ (o ≠ v ∧ r = 1 ∧ E = tuE D k v a b (nI (if v = 1 then l else 0)))) := by
  have e0 : (nI k).toNatClampNeg = k := nI_clamp (by omega)
  have ea : (nI a).toNatClampNeg = a := nI_clamp (by omega)
  have eb : (nI b).toNatClampNeg = b := nI_clamp (by omega)
  have i1 : (nI o = nI v) = (o = v) := propext (nI_eq (by omega) (by omega))
  have i2 : (nI v = 0) = (v = 0) := by rw [n0]; exact propext (nI_eq (by omega) (by omega))
  apply bX0_turn_0 <;> try simp only [e0, h2, h3, h4, h5, ea, eb, i1, i2, nb_sh1 a ha, nb_sh1 b hb]
  · exact vp_in_nI hk (by omega)
  · intro _
    have : v = 0 ∨ v = 1 := by omega
    rcases this with rfl | rfl <;> rfl
  · exact fun _ => vp_in_nI ha (by omega)
  · exact fun _ => vp_in_nI hb (by omega)
  · intro c1 c2
    refine Or.inr ⟨c1, rfl, ?_⟩
    rw [z_up_eq, z_up_k (j := b) (k := a) (Ne.symm hab), z_up_ne (show (6 : Nat) ≠ 5 by omega), if_neg (by omega)]
    rfl
  · intro c1 c2
    refine Or.inr ⟨c1, rfl, ?_⟩
    rw [z_up_eq, z_up_k (j := b) (k := a) (Ne.symm hab), z_up_ne (show (6 : Nat) ≠ 5 by omega), if_pos (by omega)]
    rfl
  · exact fun c => Or.inl ⟨c, rfl, rfl⟩
/-- a walk's being open, in the abstract -/
theorem WF_open {s : zA} (hs : WF s) {k v : Nat} (hv : v ≤ 1) : WF (a_up s 4 k v) := by
  refine ⟨hs.1, hs.2.1, hs.2.2.1, hs.2.2.2.1, fun j hj => ?_, hs.2.2.2.2.2.1, hs.2.2.2.2.2.2⟩
  obtain ⟨a1, a2, a3, a4, a5, a6⟩ := hs.2.2.2.2.1 j hj
  refine ⟨a1, a2, a3, a4, ?_, a6⟩
  by_cases e : j = k
  · rw [e, a_up_eq]; exact hv
  · rw [a_up_k e]; exact a5
theorem oa_open {s : zA} (hs : WF s) {k v : Nat} (hk : k < s 0 0) (hv : v ≤ 1) (p q : Nat) : oa (a_up s 4 k v) p q = if mtp (s 1 k) (s 2 k) p q then decide (v = 1) else oa s p q := by
  rw [Bool.eq_iff_iff, oa_iff (WF_open hs hv)]
  by_cases h : mtp (s 1 k) (s 2 k) p q = true
  · rw [if_pos h]
    simp only [decide_eq_true_eq]
    constructor
    · rintro ⟨j, h1, h2, h3⟩
      have := mt_uniq hs h1 hk h2 h
      subst this
      rw [a_up_eq] at h3
      exact h3
    · intro e
      exact ⟨k, hk, h, by rw [a_up_eq]; exact e⟩
  · rw [if_neg h, oa_iff hs]
    constructor
    · rintro ⟨j, h1, h2, h3⟩
      have hj : j ≠ k := fun e => h (by rw [← e]; exact h2)
      rw [a_up_k hj] at h3
      exact ⟨j, h1, h2, h3⟩
    · rintro ⟨j, h1, h2, h3⟩
      have hj : j ≠ k := fun e => h (by rw [← e]; exact h2)
      exact ⟨j, h1, h2, by rw [a_up_k hj]; exact h3⟩
theorem ol_open {s : zA} (hs : WF s) {k v : Nat} (hk : k < s 0 0) (hv : v ≤ 1) (p q : Nat) : ol (a_up s 4 k v) p q = if mtp (s 1 k) (s 2 k) p q then (if v = 1 then s 3 k else 0) else ol s p q := by
  have hw := WF_open hs hv (k := k)
  by_cases h : mtp (s 1 k) (s 2 k) p q = true
  · rw [if_pos h]
    by_cases e : v = 1
    · rw [if_pos e]
      exact ol_of hw hk h (by rw [a_up_eq]; exact e)
    · rw [if_neg e]
      apply ol_no
      rw [oa_open hs hk hv, if_pos h]
      simp [e]
  · rw [if_neg h]
    cases ho : oa s p q with
    | false => rw [ol_no ho, ol_no (by rw [oa_open hs hk hv, if_neg h]; exact ho)]
    | true =>
      obtain ⟨j, h1, h2, h3⟩ := (oa_iff hs).mp ho
      have hj : j ≠ k := fun e => h (by rw [← e]; exact h2)
      rw [ol_of hs h1 h2 h3, ol_of hw h1 h2 (by rw [a_up_k hj]; exact h3)]
      rfl
theorem IX_NL {D : zM} {s : zA} (h : IX D s) : NL D (oa s) (ol s) := ⟨h.2.2.2.2.2.2.2.1, h.2.2.2.2.2.2.2.2⟩
set_option maxRecDepth 20000 in
theorem J_open {D : zM} {s : zA} (h : zI D s) (x y : Int32) (hy : y = 0 ∨ y = 1) : z_Ci mX3_open [.ref 0, .int x, .int y] D (zJ mX4_open [.ref 46, .int x, .int y]) := by
  obtain ⟨hs, hM, hX⟩ := id h
  have h14 := hs.1
  have cX : z_nm x (D 1 6) ↔ vp_in x (s 0 0) := by rw [hX.1]; exact z_nm_in (by omega)
  have cM : z_wi x 0 (D 46 0 - 1) ↔ vp_in x (s 0 0) := by rw [hM.1]; exact z_wi_in (by omega)
  obtain ⟨v, hv, rfl⟩ : ∃ v : Nat, v ≤ 1 ∧ y = nI v := by
    rcases hy with rfl | rfl
    · exact ⟨0, by omega, rfl⟩
    · exact ⟨1, by omega, rfl⟩
  have hnar : vp_nar .boolean (nI v) = nI v := by
    have : v = 0 ∨ v = 1 := by omega
    rcases this with rfl | rfl <;> rfl
  refine bX3_open_0 (fun a => ?_) (fun a => ?_)
  · have a' := cX.mp a
    obtain ⟨k, hk, rfl, hk2⟩ := z_inN a'
    have e0 : (nI k).toNatClampNeg = k := nI_clamp hk2
    obtain ⟨f1, f2, f3, f4⟩ := hX.2.2.2.2.1 k hk
    obtain ⟨m1, m2, m3, m4⟩ := hM.2.2.2.2.1 k hk
    obtain ⟨g1, g2, g3, g4, g5, g6⟩ := hs.2.2.2.2.1 k hk
    have i1 : nI (s 4 k) = nI v ↔ s 4 k = v := nI_eq (by omega) (by omega)
    refine sX3_open_19 (uX0_turn (by omega) f1 f2 f3 f4 g5 hv (by omega) g2 (by omega)) (fun r D1 hr => ?_)
    rcases hr with ⟨e1, rfl, rfl⟩ | ⟨e1, rfl, rfl⟩
    · refine bX3_open_22 (fun _ => ?_) (fun q => absurd rfl q)
      exact bX4_open_0 (fun _ => z_in_mono a' h14) (fun _ _ => hnar) (fun _ q => absurd (by rw [e0, m4]; exact i1.mpr e1) q) (fun _ _ => ⟨rfl, s, h⟩) (fun q => absurd (cM.mpr a') q)
    · refine bX3_open_22 (fun q => absurd q (by decide)) (fun _ => ?_)
      have eM : ∀ q, 18 ≤ q → tuE D k v (s 1 k) (s 2 k) (nI (if v = 1 then s 3 k else 0)) q = D q := fun q hq => tuE_ne (by omega) g2 (by omega)
      have em : ∀ q, q < 5 → tuE D k v (s 1 k) (s 2 k) (nI (if v = 1 then s 3 k else 0)) q = D q := fun q hq => tuE_ne (by omega) g2 (by omega)
      refine bX4_open_0 (fun _ => z_in_mono a' h14) (fun _ _ => hnar) (fun _ _ => ?_) (fun _ q => absurd (by rw [e0, eM 50 (by omega), m4] at q; exact i1.mp q) e1) (fun q => absurd (cM.mpr a') (by rw [eM 46 (by omega)] at q; exact q))
      rw [e0]
      have hox : oa s (s 1 k) (s 2 k) = !(decide (v = 1)) := by
        have h1 := oa_open hs hk g5 (s 1 k) (s 2 k)
        rw [if_pos (by simp [mtp])] at h1
        have h2 : a_up s 4 k (s 4 k) = s := by
          funext i j
          unfold a_up
          split
          · rename_i e; subst e; dsimp only; split
            · rename_i e; rw [e]
            · rfl
          · rfl
        rw [h2] at h1
        rw [h1]
        have : v = 0 ∨ v = 1 := by omega
        rcases this with rfl | rfl
        · simp; omega
        · simp; omega
      have hNL := tuE_NL (k := k) (v := v) (l := if v = 1 then s 3 k else 0) (IX_NL hX) (show s 1 k < 10 by omega) g2 (by omega) (decide (v = 1)) hox (by rw [oa_comm]; exact hox)
      refine ⟨rfl, a_up s 4 k v, WF_open hs hv, ⟨?_, ?_, ?_, ?_, fun j hj => ?_, fun n hn => ?_, fun z hz => ?_⟩, ⟨?_, ?_, ?_, ?_, fun j hj => ?_, fun n hn => ?_, fun p hp n hn => ?_, ?_, ?_⟩⟩
      · rw [z_up_ne (by omega), eM 46 (by omega)]; exact hM.1
      · rw [z_up_ne (by omega), eM 46 (by omega)]; exact hM.2.1
      · rw [z_up_ne (by omega), eM 46 (by omega)]; exact hM.2.2.1
      · rw [z_up_ne (by omega), eM 46 (by omega)]; exact hM.2.2.2.1
      · obtain ⟨b1, b2, b3, b4⟩ := hM.2.2.2.2.1 j hj
        rw [z_up_ne (show 47 ≠ 50 by omega), z_up_ne (show 48 ≠ 50 by omega), z_up_ne (show 49 ≠ 50 by omega), eM 47 (by omega), eM 48 (by omega), eM 49 (by omega)]
        refine ⟨b1, b2, b3, ?_⟩
        by_cases e : j = k
        · rw [e, a_up_eq, z_up_eq]
        · rw [a_up_k e, z_up_k e, eM 50 (by omega)]; exact b4
      · rw [z_up_ne (by omega), eM 51 (by omega)]; exact hM.2.2.2.2.2.1 n hn
      · rw [z_up_ne (by omega), eM 52 (by omega)]; exact hM.2.2.2.2.2.2 z hz
      · rw [z_up_ne (by omega), em 1 (by omega)]; exact hX.1
      · rw [z_up_ne (by omega), em 0 (by omega)]; exact hX.2.1
      · rw [z_up_ne (by omega), em 0 (by omega)]; exact hX.2.2.1
      · rw [z_up_ne (by omega), em 0 (by omega)]; exact hX.2.2.2.1
      · obtain ⟨b1, b2, b3, b4⟩ := hX.2.2.2.2.1 j hj
        rw [z_up_ne (show 2 ≠ 50 by omega), z_up_ne (show 3 ≠ 50 by omega), z_up_ne (show 4 ≠ 50 by omega), z_up_ne (show 5 ≠ 50 by omega), em 2 (by omega), em 3 (by omega), em 4 (by omega), tuE_5]
        refine ⟨b1, b2, b3, ?_⟩
        by_cases e : j = k
        · rw [e, a_up_eq]; simp [upd]
        · rw [a_up_k e]; simp [upd, e]; exact b4
      · rw [z_up_ne (by omega), eM 38 (by omega)]; exact hX.2.2.2.2.2.1 n hn
      · rw [z_up_ne (by omega), eM (40 + n) (by omega)]; exact hX.2.2.2.2.2.2.1 p hp n hn
      · intro p hp
        rw [z_up_ne (by omega), hNL.1 p hp]
        exact congrArg nI (bm_congr (fun q hq => (oa_open hs hk hv p q).symm))
      · intro p hp q hq
        rw [z_up_ne (by omega), hNL.2 p hp q hq, ol_open hs hk hv]
  · exact bX4_open_0 (fun q => absurd (cX.mpr (cM.mp q)) a) (fun q => absurd (cX.mpr (cM.mp q)) a) (fun q => absurd (cX.mpr (cM.mp q)) a) (fun q => absurd (cX.mpr (cM.mp q)) a) (fun _ => ⟨rfl, s, h⟩)
