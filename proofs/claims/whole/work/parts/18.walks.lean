/-! WALKS: made, gone, opened, closed; boards -/
theorem z_min (a b : Nat) (ha : a < 10) (hb : b < 10) : (if nI b < nI a then nI b else nI a) = nI (min a b) := by
  have e : nI b < nI a ↔ b < a := nI_ltI (by omega) (by omega)
  by_cases h : b < a
  · rw [if_pos (e.mpr h), Nat.min_eq_right (by omega)]
  · rw [if_neg (fun q => h (e.mp q)), Nat.min_eq_left (by omega)]
theorem z_max (a b : Nat) (ha : a < 10) (hb : b < 10) : (if nI a < nI b then nI b else nI a) = nI (max a b) := by
  have e : nI a < nI b ↔ a < b := nI_ltI (by omega) (by omega)
  by_cases h : a < b
  · rw [if_pos (e.mpr h), Nat.max_eq_right (by omega)]
  · rw [if_neg (fun q => h (e.mp q)), Nat.max_eq_left (by omega)]
def bI (b : Bool) : Int32 := if b then 1 else 0
theorem uX0_joins_loop {D : zM} {s : zA} (hI : IX D s) (hs : WF s) {a b : Nat} {x1 x2 : Int32} (ha : a < 10) (hb : b < 10) : ∀ (n k : Nat), k + n = s 0 0 → z_Ok mX0_joins 16 [some (.ref 1), some (.int x1), some (.int x2), some (.int (nI (min a b))), some (.int (nI (max a b))), some (.int (nI k))] [] D (z_pi (z_va (bI (z_fst (mt s a b) n k).isSome) D)) := by
  intro n
  have hw := hs.1
  induction n with
  | zero =>
    intro k hk
    have e1 : (D 1 6 ≤ nI k) = True := by rw [hI.1, nI_leI (by omega) (by omega)]; simp; omega
    apply bX0_joins_16 <;> simp only [e1, not_true, false_imp_iff, true_imp_iff]
    exact ⟨rfl, rfl⟩
  | succ n ih =>
    intro k hk
    have e1 : (D 1 6 ≤ nI k) = False := by rw [hI.1, nI_leI (by omega) (by omega)]; simp; omega
    have e0 : (nI k).toNatClampNeg = k := nI_clamp (by omega)
    obtain ⟨f1, f2, f3, f4⟩ := hI.2.2.2.2.1 k (by omega)
    obtain ⟨g1, g2, -⟩ := hs.2.2.2.2.1 k (by omega)
    have i1 : (nI (s 1 k) = nI (min a b)) = (s 1 k = min a b) := propext (nI_eq (by omega) (by omega))
    have i2 : (nI (s 2 k) = nI (max a b)) = (s 2 k = max a b) := propext (nI_eq (by omega) (by omega))
    have ih' := ih (k + 1) (by omega)
    rw [nI_succ] at ih'
    apply bX0_joins_16 <;> simp only [e1, e0, f1, f2, i1, i2, not_false_eq_true, false_imp_iff, true_imp_iff]
    · exact vp_in_nI (by omega) (by omega)
    all_goals (intros; first
      | (rw [show z_fst (mt s a b) (n + 1) k = z_fst (mt s a b) n (k + 1) from if_neg (by simp [mt]; omega)]; exact ih')
      | (rw [show z_fst (mt s a b) (n + 1) k = some k from if_pos (by simp [mt]; omega)]; exact ⟨rfl, rfl⟩))
theorem uX0_joins {D : zM} {s : zA} (hI : IX D s) (hs : WF s) {a b : Nat} (ha : a < 10) (hb : b < 10) : z_Ci mX0_joins [.ref 1, .int (nI a), .int (nI b)] D (z_va (bI (wbt s a b).isSome) D) := by
  refine bX0_joins_0 ?_
  rw [z_min a b ha hb, z_max a b ha hb]
  exact uX0_joins_loop hI hs ha hb (s 0 0) 0 (by omega)
theorem bI_0 (b : Bool) : bI b = 0 ↔ b = false := by cases b <;> simp [bI]
theorem wbt_lt {s : zA} (hs : WF s) {a b k : Nat} (h : wbt s a b = some k) : k < s 0 0 := ((wbt_iff hs).mp h).1
theorem oI_wbt {s : zA} (hs : WF s) {a b : Nat} : oI (wbt s a b) = -9 ↔ (wbt s a b).isSome = false := by
  rw [oI_ne9 (fun k hk => by have := wbt_lt hs hk; have := hs.1; omega)]
  cases wbt s a b <;> simp
/-- IM and IX behind a new arrow -/
theorem zI_arrow {D : zM} {s : zA} (h : zI D s) {p n : Nat} (hp : p < 10) (hn : n < 5) (v : Nat) (hv : v ≤ 10) : zI (z_up (z_up D (40 + n) p (oI (aO v))) 52 (5 * p + n) (oI (aO v))) (a_up s 6 (5 * p + n) v) := by
  obtain ⟨hs, hM, hX⟩ := h
  have e0 : ∀ q, q ≠ 52 → (q < 40 ∨ 45 ≤ q) → (z_up (z_up D (40 + n) p (oI (aO v))) 52 (5 * p + n) (oI (aO v))) q = D q := fun q h1 h2 => by rw [z_up_ne h1, z_up_ne (by omega)]
  refine ⟨⟨hs.1, hs.2.1, hs.2.2.1, hs.2.2.2.1, hs.2.2.2.2.1, hs.2.2.2.2.2.1, fun x hx => ?_⟩, ?_, ?_⟩
  · by_cases e : x = 5 * p + n
    · rw [e, a_up_eq]; exact hv
    · rw [a_up_k e]; exact hs.2.2.2.2.2.2 x hx
  · refine ⟨?_, ?_, ?_, ?_, fun k hk => ?_, fun m hm => ?_, fun x hx => ?_⟩
    · rw [e0 46 (by omega) (by omega)]; exact hM.1
    · rw [e0 46 (by omega) (by omega)]; exact hM.2.1
    · rw [e0 46 (by omega) (by omega)]; exact hM.2.2.1
    · rw [e0 46 (by omega) (by omega)]; exact hM.2.2.2.1
    · rw [e0 47 (by omega) (by omega), e0 48 (by omega) (by omega), e0 49 (by omega) (by omega), e0 50 (by omega) (by omega)]; exact hM.2.2.2.2.1 k hk
    · rw [e0 51 (by omega) (by omega)]; exact hM.2.2.2.2.2.1 m hm
    · by_cases e : x = 5 * p + n
      · rw [e, a_up_eq, z_up_eq]
      · rw [a_up_k e, z_up_k e, z_up_ne (by omega)]; exact hM.2.2.2.2.2.2 x hx
  · refine ⟨?_, ?_, ?_, ?_, fun k hk => ?_, fun m hm => ?_, fun q hq m hm => ?_, fun q hq => ?_, fun q hq r hr => ?_⟩
    · rw [e0 1 (by omega) (by omega)]; exact hX.1
    · rw [e0 0 (by omega) (by omega)]; exact hX.2.1
    · rw [e0 0 (by omega) (by omega)]; exact hX.2.2.1
    · rw [e0 0 (by omega) (by omega)]; exact hX.2.2.2.1
    · rw [e0 2 (by omega) (by omega), e0 3 (by omega) (by omega), e0 4 (by omega) (by omega), e0 5 (by omega) (by omega)]; exact hX.2.2.2.2.1 k hk
    · rw [e0 38 (by omega) (by omega)]; exact hX.2.2.2.2.2.1 m hm
    · rw [z_up_ne (by omega)]
      by_cases e1 : m = n
      · by_cases e2 : q = p
        · rw [e1, e2, a_up_eq, z_up_eq]
        · rw [e1, z_up_k e2, a_up_k (by omega)]; exact hX.2.2.2.2.2.2.1 q hq n hn
      · rw [z_up_ne (by omega), a_up_k (by omega)]; exact hX.2.2.2.2.2.2.1 q hq m hm
    · rw [e0 6 (by omega) (by omega), oa_same (s := s) (t := a_up s 6 (5 * p + n) v) rfl rfl rfl rfl]; exact hX.2.2.2.2.2.2.2.1 q hq
    · rw [e0 (8 + q) (by omega) (by omega), ol_same (s := s) (t := a_up s 6 (5 * p + n) v) rfl rfl rfl rfl rfl]; exact hX.2.2.2.2.2.2.2.2 q hq r hr
set_option maxRecDepth 20000 in
theorem J_board {D : zM} {s : zA} (h : zI D s) (x y z : Int32) : z_Ci mX3_board [.ref 0, .int x, .int y, .int z] D (zJ mX4_board [.ref 46, .int x, .int y, .int z]) := by
  obtain ⟨hs, hM, hX⟩ := id h
  have h5 := hs.2.1
  have cX : z_nm y (D 0 7) ↔ vp_in y (s 0 1) := by rw [hX.2.1]; exact z_nm_in (by omega)
  have cM : z_wi y 0 (D 46 5 - 1) ↔ vp_in y (s 0 1) := by rw [hM.2.1]; exact z_wi_in (by omega)
  have fail : ¬ (vp_in x 10 ∧ vp_in y (s 0 1) ∧ vp_in z 10) → zJ mX4_board [.ref 46, .int x, .int y, .int z] (-1) D := fun hn => bX4_board_0 (fun a b c => absurd ⟨a, cM.mp b, c⟩ hn) (fun _ _ _ => ⟨rfl, s, h⟩) (fun _ _ => ⟨rfl, s, h⟩) (fun _ => ⟨rfl, s, h⟩)
  refine bX3_board_0 (fun a b c => ?_) (fun a b c => fail (fun q => c q.2.2)) (fun a b => fail (fun q => b (cX.mpr q.2.1))) (fun a => fail (fun q => a q.1))
  have b' := cX.mp b
  obtain ⟨p, hp, rfl, hp2⟩ := z_inN a
  obtain ⟨n, hn, rfl, hn2⟩ := z_inN b'
  obtain ⟨t, ht, rfl, -⟩ := z_inN c
  refine sX3_board_30 (uX0_joins hX hs hp ht) (fun r D1 hr => ?_)
  obtain ⟨rfl, rfl⟩ := hr
  rw [show (D1 : zM) = D1 from rfl]
  refine bX3_board_33 (fun _ => z_in_mono b' h5) (fun _ => a) (fun e => ?_) (fun e => ?_)
  · rw [nI_clamp hp2, nI_clamp hn2]
    refine bX4_board_0 (fun _ _ _ => ?_) (fun _ _ q => absurd c q) (fun _ q => absurd (cM.mpr b') (by rw [z_up_ne (by omega)] at q; exact q)) (fun q => absurd a q)
    have hM2 : IM (z_up D1 (40 + n) p (nI t)) s := hM.ag (ps := [40, 41, 42, 43, 44]) (ks := []) ⟨fun q _ h2 => z_up_ne (fun e => h2 (by subst e; simp; omega)), fun k _ => by rw [z_up_ne (by omega)]⟩ (by decide) (by decide)
    refine sX4_board_27 (uX4_walkBetween hM2 hs hp ht) (fun r D2 hr => ?_)
    obtain ⟨rfl, rfl⟩ := hr
    refine bX4_board_30 (fun _ => ?_) (fun _ => ?_) (fun q => absurd ((bI_0 _).mpr ((oI_wbt hs).mp q)) e)
    · rw [z_5pn]; exact vp_in_nI (by omega) (by omega)
    · rw [z_5pn, nI_clamp (by omega)]
      refine ⟨?_, _, zI_arrow h hp (by omega) (t + 1) (by omega)⟩
      rw [z_up_ne (by omega), hM.2.2.2.2.2.2 _ (by omega), hX.2.2.2.2.2.2.1 p hp n (by omega)]
  · refine bX4_board_0 (fun _ _ _ => ?_) (fun _ _ q => absurd c q) (fun _ q => absurd (cM.mpr b') q) (fun q => absurd a q)
    refine sX4_board_27 (uX4_walkBetween hM hs hp ht) (fun r D2 hr => ?_)
    obtain ⟨rfl, rfl⟩ := hr
    exact bX4_board_30 (fun q => absurd ((oI_wbt hs).mpr ((bI_0 _).mp e)) q) (fun q => absurd ((oI_wbt hs).mpr ((bI_0 _).mp e)) q) (fun _ => ⟨rfl, s, h⟩)
set_option maxRecDepth 20000 in
theorem J_unboard {D : zM} {s : zA} (h : zI D s) (x y : Int32) : z_Ci mX3_unboard [.ref 0, .int x, .int y] D (zJ mX4_unboard [.ref 46, .int x, .int y]) := by
  obtain ⟨hs, hM, hX⟩ := id h
  have h5 := hs.2.1
  have cX : z_nm y (D 0 7) ↔ vp_in y (s 0 1) := by rw [hX.2.1]; exact z_nm_in (by omega)
  have cM : z_wi y 0 (D 46 5 - 1) ↔ vp_in y (s 0 1) := by rw [hM.2.1]; exact z_wi_in (by omega)
  have fail : ¬ (vp_in x 10 ∧ vp_in y (s 0 1)) → zJ mX4_unboard [.ref 46, .int x, .int y] (-1) D := fun hn => bX4_unboard_0 (fun a b => absurd ⟨a, cM.mp b⟩ hn) (fun a b => absurd ⟨a, cM.mp b⟩ hn) (fun a b => absurd ⟨a, cM.mp b⟩ hn) (fun _ _ => ⟨rfl, s, h⟩) (fun _ => ⟨rfl, s, h⟩)
  have i5 : vp_in x 10 → vp_in y (s 0 1) → vp_in (5 * x + y) 50 := by
    intro a b
    obtain ⟨p, hp, rfl, -⟩ := z_inN a
    obtain ⟨n, hn, rfl, -⟩ := z_inN b
    rw [z_5pn]; exact vp_in_nI (by omega) (by omega)
  have same : vp_in x 10 → vp_in y (s 0 1) → D (40 + y.toNatClampNeg) x.toNatClampNeg = D 52 (5 * x + y).toNatClampNeg := by
    intro a b
    obtain ⟨p, hp, rfl, hp2⟩ := z_inN a
    obtain ⟨n, hn, rfl, hn2⟩ := z_inN b
    rw [z_5pn, nI_clamp hp2, nI_clamp hn2, nI_clamp (by omega), hM.2.2.2.2.2.2 _ (by omega), hX.2.2.2.2.2.2.1 p hp n (by omega)]
  refine bX3_unboard_0 (fun _ b => z_in_mono (cX.mp b) h5) (fun a b c => ?_) (fun a b c => ?_) (fun a b => fail (fun q => b (cX.mpr q.2))) (fun a => fail (fun q => a q.1))
  · have b' := cX.mp b
    have hsame := same a b'
    obtain ⟨p, hp, rfl, hp2⟩ := z_inN a
    obtain ⟨n, hn, rfl, hn2⟩ := z_inN b'
    rw [nI_clamp hp2, nI_clamp hn2] at hsame c ⊢
    have e52 : z_up D (40 + n) p (-9) 52 = D 52 := z_up_ne (by omega)
    refine bX4_unboard_0 (fun _ _ => i5 a b') (fun _ _ _ => ?_) (fun _ _ q => absurd (by rw [e52] at q; rw [hsame]; exact q) c) (fun _ q => absurd (cM.mpr b') (by rw [z_up_ne (by omega)] at q; exact q)) (fun q => absurd a q)
    rw [z_5pn, nI_clamp (by omega), e52]
    rw [z_5pn, nI_clamp (by omega)] at hsame
    exact ⟨hsame.symm, _, zI_arrow h hp (by omega) 0 (by omega)⟩
  · have b' := cX.mp b
    have hsame := same a b'
    exact bX4_unboard_0 (fun _ _ => i5 a b') (fun _ _ q => absurd (by rw [← hsame]; exact c) q) (fun _ _ _ => ⟨rfl, s, h⟩) (fun _ q => absurd (cM.mpr b') q) (fun q => absurd a q)
set_option maxRecDepth 20000 in
theorem J_ofWalk {D : zM} {s : zA} (h : zI D s) (x y : Int32) : z_Ci mX3_ofWalk [.ref 0, .int x, .int y] D (zJ mX4_ofWalk [.ref 46, .int x, .int y]) := by
  obtain ⟨hs, hM, hX⟩ := id h
  have h14 := hs.1
  have cX : z_nm x (D 1 6) ↔ vp_in x (s 0 0) := by rw [hX.1]; exact z_nm_in (by omega)
  have cM : z_wi x 0 (D 46 0 - 1) ↔ vp_in x (s 0 0) := by rw [hM.1]; exact z_wi_in (by omega)
  have i1 : vp_in x (s 0 0) → vp_in x 14 := fun q => z_in_mono q h14
  have same : vp_in x (s 0 0) → D 47 x.toNatClampNeg = D 2 x.toNatClampNeg ∧ D 48 x.toNatClampNeg = D 3 x.toNatClampNeg ∧ D 49 x.toNatClampNeg = D 4 x.toNatClampNeg ∧ D 50 x.toNatClampNeg = D 5 x.toNatClampNeg := by
    intro a
    obtain ⟨k, hk, rfl, hk2⟩ := z_inN a
    rw [nI_clamp hk2]
    obtain ⟨a1, a2, a3, a4⟩ := hM.2.2.2.2.1 k hk
    obtain ⟨b1, b2, b3, b4⟩ := hX.2.2.2.2.1 k hk
    exact ⟨a1.trans b1.symm, a2.trans b2.symm, a3.trans b3.symm, a4.trans b4.symm⟩
  have all : ∀ r, (¬ vp_in x (s 0 0) → r = -1) → (vp_in x (s 0 0) → y = 0 → r = D 2 x.toNatClampNeg) → (vp_in x (s 0 0) → y = 1 → r = D 3 x.toNatClampNeg) → (vp_in x (s 0 0) → y = 2 → r = D 4 x.toNatClampNeg) → (vp_in x (s 0 0) → y = 3 → D 5 x.toNatClampNeg = 0 → r = 0) → (vp_in x (s 0 0) → y = 3 → ¬ D 5 x.toNatClampNeg = 0 → r = 1) → (vp_in x (s 0 0) → ¬ y = 0 → ¬ y = 1 → ¬ y = 2 → ¬ y = 3 → r = -2) → zJ mX4_ofWalk [.ref 46, .int x, .int y] r D := by
    intro r q1 q2 q3 q4 q5 q6 q7
    refine bX4_ofWalk_0 (fun a _ => i1 (cM.mp a)) (fun a _ _ => i1 (cM.mp a)) (fun a _ _ _ => i1 (cM.mp a)) (fun a _ _ _ _ => i1 (cM.mp a)) (fun a b => ⟨?_, s, h⟩) (fun a _ b => ⟨?_, s, h⟩) (fun a _ _ b => ⟨?_, s, h⟩) (fun a _ _ _ b c => ⟨?_, s, h⟩) (fun a _ _ _ b c => ⟨?_, s, h⟩) (fun a b c d e => ⟨(q7 (cM.mp a) b c d e).symm, s, h⟩) (fun a => ⟨(q1 (fun z => a (cM.mpr z))).symm, s, h⟩)
    · rw [q2 (cM.mp a) b]; exact (same (cM.mp a)).1
    · rw [q3 (cM.mp a) b]; exact (same (cM.mp a)).2.1
    · rw [q4 (cM.mp a) b]; exact (same (cM.mp a)).2.2.1
    · rw [q5 (cM.mp a) b (by rw [← (same (cM.mp a)).2.2.2]; exact c)]
    · rw [q6 (cM.mp a) b (by rw [← (same (cM.mp a)).2.2.2]; exact c)]
  refine bX3_ofWalk_0 (fun a _ => i1 (cX.mp a)) (fun a _ _ => i1 (cX.mp a)) (fun a _ _ _ => i1 (cX.mp a)) (fun a _ _ _ _ => i1 (cX.mp a)) (fun a b => ?_) (fun a _ b => ?_) (fun a _ _ b => ?_) (fun a _ _ _ b c => ?_) (fun a _ _ _ b c => ?_) (fun a b c d e => ?_) (fun a => ?_)
  · exact all _ (fun z => absurd (cX.mp a) z) (fun _ _ => rfl) (fun _ z => absurd (b.symm.trans z) (by decide)) (fun _ z => absurd (b.symm.trans z) (by decide)) (fun _ z => absurd (b.symm.trans z) (by decide)) (fun _ z => absurd (b.symm.trans z) (by decide)) (fun _ z => absurd b z)
  · exact all _ (fun z => absurd (cX.mp a) z) (fun _ z => absurd (b.symm.trans z) (by decide)) (fun _ _ => rfl) (fun _ z => absurd (b.symm.trans z) (by decide)) (fun _ z => absurd (b.symm.trans z) (by decide)) (fun _ z => absurd (b.symm.trans z) (by decide)) (fun _ _ z => absurd b z)
  · exact all _ (fun z => absurd (cX.mp a) z) (fun _ z => absurd (b.symm.trans z) (by decide)) (fun _ z => absurd (b.symm.trans z) (by decide)) (fun _ _ => rfl) (fun _ z => absurd (b.symm.trans z) (by decide)) (fun _ z => absurd (b.symm.trans z) (by decide)) (fun _ _ _ z => absurd b z)
  · exact all _ (fun z => absurd (cX.mp a) z) (fun _ z => absurd (b.symm.trans z) (by decide)) (fun _ z => absurd (b.symm.trans z) (by decide)) (fun _ z => absurd (b.symm.trans z) (by decide)) (fun _ _ _ => rfl) (fun _ _ z => absurd c z) (fun _ _ _ _ z => absurd b z)
  · exact all _ (fun z => absurd (cX.mp a) z) (fun _ z => absurd (b.symm.trans z) (by decide)) (fun _ z => absurd (b.symm.trans z) (by decide)) (fun _ z => absurd (b.symm.trans z) (by decide)) (fun _ _ z => absurd z c) (fun _ _ _ => rfl) (fun _ _ _ _ z => absurd b z)
  · exact all _ (fun z => absurd (cX.mp a) z) (fun _ z => absurd z b) (fun _ z => absurd z c) (fun _ z => absurd z d) (fun _ z => absurd z e) (fun _ z => absurd z e) (fun _ _ _ _ _ => rfl)
  · exact all _ (fun _ => rfl) (fun z => absurd (cX.mpr z) a) (fun z => absurd (cX.mpr z) a) (fun z => absurd (cX.mpr z) a) (fun z => absurd (cX.mpr z) a) (fun z => absurd (cX.mpr z) a) (fun z => absurd (cX.mpr z) a)
