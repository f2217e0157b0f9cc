/-! ends, those -/
def en (s : zA) (p : Nat) : Bool := (s 0 2).testBit p
def eN (s : zA) (ar : Nat → Option Nat) (h how p : Nat) : Nat := if en s p && decide ((folR s ar h p).1 = how) then 1 else 0
def mE (s : zA) (ar : Nat → Option Nat) (h how : Nat) : Nat := sm (eN s ar h how) 10
def endsN (s : zA) (how : Nat) : Nat := sm (fun n => mE s (arN s n) (s 5 n) how) (s 0 1)
theorem mE_le (s : zA) (ar : Nat → Option Nat) (h how : Nat) : mE s ar h how ≤ 10 := by
  have := sm_le (f := eN s ar h how) (b := 1) (n := 10) (fun i _ => by unfold eN; split <;> omega)
  unfold mE
  omega
theorem endsN_le {s : zA} (hs : WF s) (how : Nat) : endsN s how ≤ 50 := by
  have := sm_le (f := fun n => mE s (arN s n) (s 5 n) how) (b := 10) (n := s 0 1) (fun i _ => mE_le _ _ _ _)
  have h5 := hs.2.1
  unfold endsN
  omega
theorem folR_le {s : zA} (hs : WF s) (ar : Nat → Option Nat) (h p : Nat) : (folR s ar h p).1 ≤ 4 ∧ (folR s ar h p).2.1.length ≤ 29 ∧ (folR s ar h p).2.2 ≤ 2871 := fol_bound hs 29 p none (fun _ _ => false)
theorem zb_en {s : zA} (hs : WF s) {x : Int32} (hx : x = nI (s 0 2)) {p : Nat} (hp : p < 10) : zb x (nI p) = (en s p = true) := by
  have := hs.2.2.1
  rw [hx]
  exact propext (zb_bit (by omega) hp)
theorem AR.ag {D E : zM} {ar : Nat → Option Nat} (h : AR D ar) {ps ks : List Nat} (hD : z_ag 46 ps ks D E) (hp : ps.contains 54 = false) : AR E ar := ⟨fun p hp' => by
  rw [hD.1 54 (by omega) (fun c => by rw [List.contains_iff_mem.mpr c] at hp; cases hp)]
  exact h.1 p hp', h.2⟩
theorem uX4_manyEnd {D : zM} {s : zA} (hI : IM D s) (hs : WF s) {ar : Nat → Option Nat} (hA : AR D ar) {n how : Nat} (hn : n < s 0 1) (hh : how ≤ 4) : z_Ci mX4_manyEnd [.ref 46, .int (nI n), .int (nI how)] D (fun r E => r = nI (mE s ar (s 5 n) how) ∧ z_ag 46 [55, 56] [13, 14, 15] D E) := by
  refine bX4_manyEnd_0 ?_
  have loop : ∀ (m p : Nat) (E : zM), p + m = 10 → z_ag 46 [55, 56] [13, 14, 15] D E → z_Ok mX4_manyEnd 5 [some (.ref 46), some (.int (nI n)), some (.int (nI how)), some (.int (nI (sm (eN s ar (s 5 n) how) p))), some (.int (nI p))] [] E (z_pi (fun r E => r = nI (mE s ar (s 5 n) how) ∧ z_ag 46 [55, 56] [13, 14, 15] D E)) := by
    intro m
    induction m with
    | zero =>
      intro p E hp hag
      have e1 : (10 ≤ nI p) = True := by rw [nI10 p (by omega)]; simp; omega
      apply bX4_manyEnd_5 <;> simp only [e1, not_true, false_imp_iff, true_imp_iff]
      exact ⟨by rw [show p = 10 by omega]; rfl, hag⟩
    | succ m ih =>
      intro p E hp hag
      have e1 : (10 ≤ nI p) = False := by rw [nI10 p (by omega)]; simp; omega
      have hIE := hI.ag hag (by decide) (by decide)
      have hAE := hA.ag hag (by decide)
      have iz := zb_en hs hIE.2.2.1 (show p < 10 by omega)
      have ih' := fun E => ih (p + 1) E (by omega)
      rw [nI_succ p] at ih'
      have e3 : sm (eN s ar (s 5 n) how) (p + 1) = sm (eN s ar (s 5 n) how) p + eN s ar (s 5 n) how p := rfl
      apply bX4_manyEnd_5 <;> simp only [e1, iz, not_false_eq_true, false_imp_iff, true_imp_iff]
      · intro c
        refine sX4_manyEnd_28 (uX4_follows hIE hs hAE hn (show p < 10 by omega)) (fun F hF => ?_)
        have hb := (folR_le hs ar (s 5 n) p).1
        have i13 : (F 46 13 = nI how) = ((folR s ar (s 5 n) p).1 = how) := by rw [hF.1.1]; exact propext (nI_eq (by omega) (by omega))
        apply bX4_manyEnd_31 <;> simp only [i13]
        · intro w
          rw [n0, nI_add, show sm (eN s ar (s 5 n) how) p + 0 = sm (eN s ar (s 5 n) how) (p + 1) by rw [e3, eN]; simp [w]]
          exact ih' F (hag.trans hF.2)
        · intro w
          rw [← nI_succ (sm (eN s ar (s 5 n) how) p), show sm (eN s ar (s 5 n) how) p + 1 = sm (eN s ar (s 5 n) how) (p + 1) by rw [e3, eN]; simp [w, c]]
          exact ih' F (hag.trans hF.2)
      · intro c
        have := ih' E hag
        rw [show sm (eN s ar (s 5 n) how) (p + 1) = sm (eN s ar (s 5 n) how) p by rw [e3, eN]; simp [c]] at this
        exact this
  exact loop 10 0 D (by omega) z_ag.rfl
theorem uX4_endsL {D : zM} {s : zA} (hI : IM D s) (hs : WF s) {how : Nat} (hh : how ≤ 4) : z_Ok mX4_ends 16 [some (.ref 46), some (.int (nI how)), some (.int 0), some (.int 0)] [] D (z_pi (fun r E => r = nI (endsN s how) ∧ z_ag 46 [54, 55, 56] [13, 14, 15] D E)) := by
  have h5 := hs.2.1
  have loop : ∀ (m n : Nat) (E : zM), n + m = s 0 1 → z_ag 46 [54, 55, 56] [13, 14, 15] D E → z_Ok mX4_ends 16 [some (.ref 46), some (.int (nI how)), some (.int (nI (sm (fun n => mE s (arN s n) (s 5 n) how) n))), some (.int (nI n))] [] E (z_pi (fun r E => r = nI (endsN s how) ∧ z_ag 46 [54, 55, 56] [13, 14, 15] D E)) := by
    intro m
    induction m with
    | zero =>
      intro n E hn hag
      have hIE := hI.ag hag (by decide) (by decide)
      have e1 : (E 46 5 ≤ nI n) = True := by rw [hIE.2.1, nI_leI (by omega) (by omega)]; simp; omega
      apply bX4_ends_16 <;> simp only [e1, not_true, false_imp_iff, true_imp_iff]
      exact ⟨by rw [show n = s 0 1 by omega]; rfl, hag⟩
    | succ m ih =>
      intro n E hn hag
      have hIE := hI.ag hag (by decide) (by decide)
      have e1 : (E 46 5 ≤ nI n) = False := by rw [hIE.2.1, nI_leI (by omega) (by omega)]; simp; omega
      have ih' := fun E => ih (n + 1) E (by omega)
      rw [nI_succ n] at ih'
      apply bX4_ends_16 <;> simp only [e1, not_false_eq_true, false_imp_iff, true_imp_iff]
      refine sX4_ends_26 (uX4_laysArrows hIE hs (show n < 5 by omega)) (fun F hF => bX4_ends_29 ?_)
      have hIF := hIE.ag hF.2 (by decide) (by decide)
      refine sX4_ends_33 (uX4_manyEnd hIF hs hF.1 (show n < s 0 1 by omega) hh) (fun r G hG => bX4_ends_36 ?_)
      rw [hG.1, nI_add]
      exact ih' G ((hag.trans (hF.2.mono (by decide) (by decide))).trans (hG.2.mono (by decide) (by decide)))
  exact loop (s 0 1) 0 D (by omega) z_ag.rfl
/-! the class -/
theorem uX3_countEndings {D : zM} {s : zA} (hX : IX D s) (hs : WF s) {r : Nat} (hr : z_sh[r]? = some (.inr (.inl (0, 10)))) (hrf : r < 32 ∨ 38 ≤ r) {ar : Nat → Option Nat} (hA : AX D r ar) {n how : Nat} (hn : n < s 0 1) (hh : how ≤ 4) : z_Ci mX3_countEndings [.ref 0, .int (nI n), .ref r, .int (nI how)] D (fun v E => v = nI (mE s ar (s 5 n) how) ∧ fO 32 D E) := by
  have h5 := hs.2.1
  have hhm := hs.2.2.2.2.2.1 n hn
  have en0 : (nI n).toNatClampNeg = n := nI_clamp (by omega)
  refine bX3_countEndings_0 hr ?_
  have loop : ∀ (m p : Nat) (E : zM), p + m = 10 → fO 32 D E → z_Ok mX3_countEndings 6 [some (.ref 0), some (.int (nI n)), some (.ref r), some (.int (nI how)), some (.int (nI (sm (eN s ar (s 5 n) how) p))), some (.int (nI p))] [] E (z_pi (fun v E => v = nI (mE s ar (s 5 n) how) ∧ fO 32 D E)) := by
    intro m
    induction m with
    | zero =>
      intro p E hp hag
      have e1 : (10 ≤ nI p) = True := by rw [nI10 p (by omega)]; simp; omega
      apply bX3_countEndings_6 hr <;> simp only [e1, not_true, false_imp_iff, true_imp_iff]
      exact ⟨by rw [show p = 10 by omega]; rfl, hag⟩
    | succ m ih =>
      intro p E hp hag
      have e1 : (10 ≤ nI p) = False := by rw [nI10 p (by omega)]; simp; omega
      have hXE := hag.ix (Or.inl rfl) hX
      have hAE : AX E r ar := ⟨fun t ht => by rw [hag r (by omega) (by omega) (by omega)]; exact hA.1 t ht, hA.2⟩
      have iz := zb_en hs hXE.2.2.1 (show p < 10 by omega)
      have ih' := fun E => ih (p + 1) E (by omega)
      rw [nI_succ p] at ih'
      have e3 : sm (eN s ar (s 5 n) how) (p + 1) = sm (eN s ar (s 5 n) how) p + eN s ar (s 5 n) how p := rfl
      apply bX3_countEndings_6 hr <;> simp only [e1, iz, en0, hXE.2.2.2.2.2.1 n hn, not_false_eq_true, false_imp_iff, true_imp_iff]
      · exact fun _ => vp_in_nI (by omega) (by omega)
      · intro c
        refine sX3_countEndings_42 (uX1_go hXE hs (Or.inl rfl) hr hrf hAE hhm (show p < 10 by omega)) (fun F hF => ?_)
        have hb := (folR_le hs ar (s 5 n) p).1
        have i13 : (F 32 4 = nI how) = ((folR s ar (s 5 n) p).1 = how) := by rw [hF.1.1]; exact propext (nI_eq (by omega) (by omega))
        apply bX3_countEndings_45 hr <;> simp only [i13]
        · intro w
          have := ih' F (hag.trans hF.2)
          rw [show sm (eN s ar (s 5 n) how) (p + 1) = sm (eN s ar (s 5 n) how) p by rw [e3, eN]; simp [w]] at this
          exact this
        · intro w
          rw [← nI_succ (sm (eN s ar (s 5 n) how) p), show sm (eN s ar (s 5 n) how) p + 1 = sm (eN s ar (s 5 n) how) (p + 1) by rw [e3, eN]; simp [w, c]]
          exact ih' F (hag.trans hF.2)
      · intro c
        have := ih' E hag
        rw [show sm (eN s ar (s 5 n) how) (p + 1) = sm (eN s ar (s 5 n) how) p by rw [e3, eN]; simp [c]] at this
        exact this
  exact loop 10 0 D (by omega) fO.rfl
theorem uX3_endsL {D : zM} {s : zA} (hX : IX D s) (hs : WF s) {how : Nat} (hh : how ≤ 4) : z_Ok mX3_ends 14 [some (.ref 0), some (.int (nI how)), some (.int 0), some (.int 0)] [] D (z_pi (fun r E => r = nI (endsN s how) ∧ fO 32 D E)) := by
  have h5 := hs.2.1
  have loop : ∀ (m n : Nat) (E : zM), n + m = s 0 1 → fO 32 D E → z_Ok mX3_ends 14 [some (.ref 0), some (.int (nI how)), some (.int (nI (sm (fun n => mE s (arN s n) (s 5 n) how) n))), some (.int (nI n))] [] E (z_pi (fun r E => r = nI (endsN s how) ∧ fO 32 D E)) := by
    intro m
    induction m with
    | zero =>
      intro n E hn hag
      have hXE := hag.ix (Or.inl rfl) hX
      have e1 : (E 0 7 ≤ nI n) = True := by rw [hXE.2.1, nI_leI (by omega) (by omega)]; simp; omega
      apply bX3_ends_14 <;> simp only [e1, not_true, false_imp_iff, true_imp_iff]
      exact ⟨by rw [show n = s 0 1 by omega]; rfl, hag⟩
    | succ m ih =>
      intro n E hn hag
      have hXE := hag.ix (Or.inl rfl) hX
      have e1 : (E 0 7 ≤ nI n) = False := by rw [hXE.2.1, nI_leI (by omega) (by omega)]; simp; omega
      have en0 : (nI n).toNatClampNeg = n := nI_clamp (by omega)
      have ih' := fun E => ih (n + 1) E (by omega)
      rw [nI_succ n] at ih'
      apply bX3_ends_14 <;> simp only [e1, en0, not_false_eq_true, false_imp_iff, true_imp_iff]
      · exact vp_in_nI (by omega) (by omega)
      · refine sX3_ends_32 (uX3_countEndings hXE hs (z_sh40 n (by omega)) (by omega) (hXE.ar hs (by omega)) (show n < s 0 1 by omega) hh) (fun r G hG => bX3_ends_35 ?_)
        rw [hG.1, nI_add]
        exact ih' G (hag.trans hG.2)
  exact loop (s 0 1) 0 D (by omega) fO.rfl
theorem z_wi_4 (x : Int32) : z_wi x 0 4 ↔ vp_in x 5 := by
  unfold z_wi
  rw [vp_in_iff, Int32.le_iff_toInt_le, Int32.le_iff_toInt_le, show (0 : Int32).toInt = 0 by decide, show (4 : Int32).toInt = 4 by decide]
  omega
theorem uX3_ends {D : zM} {s : zA} (hX : IX D s) (hs : WF s) {how : Nat} (hh : how ≤ 4) : z_Ci mX3_ends [.ref 0, .int (nI how)] D (fun r E => r = nI (endsN s how) ∧ fO 32 D E) :=
  bX3_ends_0 (fun _ => uX3_endsL hX hs hh) (fun q => absurd (vp_in_nI (by omega) (by omega)) q)
theorem uX4_ends {D : zM} {s : zA} (hI : IM D s) (hs : WF s) {how : Nat} (hh : how ≤ 4) : z_Ci mX4_ends [.ref 46, .int (nI how)] D (fun r E => r = nI (endsN s how) ∧ z_ag 46 [54, 55, 56] [13, 14, 15] D E) :=
  bX4_ends_0 (fun _ => uX4_endsL hI hs hh) (fun q => absurd ((z_wi_4 _).mpr (vp_in_nI (by omega) (by omega))) q)
/-- a contract turned to the end state that both must have -/
theorem z_weakI {Y : zY} {as : List Value} {D : zM} {Q Q' : Int32 → zM → Prop} (h : z_Ci Y as D Q) (hQ : ∀ r E, Q r E → Q' r E) : z_Ci Y as D Q' := z_weak h (fun o E hE => by
  cases o with
  | none => exact hE.elim
  | some r => exact hQ r E hE)
theorem J_ends {D : zM} {s : zA} (h : zI D s) (x : Int32) : z_Ci mX3_ends [.ref 0, .int x] D (zJ mX4_ends [.ref 46, .int x]) := by
  obtain ⟨hs, hM, hX⟩ := id h
  by_cases c : vp_in x 5
  · obtain ⟨how, hh, rfl, -⟩ := z_inN c
    refine z_weakI (uX3_ends hX hs (show how ≤ 4 by omega)) (fun r E hE => ?_)
    obtain ⟨rfl, hfo⟩ := hE
    have hag := hfo.ag (Or.inl rfl)
    exact z_weakI (uX4_ends (zI.M hM hag (by decide)) hs (show how ≤ 4 by omega)) (fun r F hF => ⟨hF.1, s, h.after hag hF.2 (by decide) (by decide) (by decide) (by decide)⟩)
  · exact bX3_ends_0 (fun q => absurd q c) (fun _ => bX4_ends_0 (fun q => absurd ((z_wi_4 _).mp q) c) (fun _ => ⟨rfl, s, h⟩))
def thN (s : zA) (n how p : Nat) : Bool := decide ((folR s (arN s n) (s 5 n) p).1 = how)
set_option maxRecDepth 20000 in
theorem J_those {D : zM} {s : zA} (h : zI D s) (x y : Int32) : z_Ci mX3_those [.ref 0, .int x, .int y] D (zJ mX4_those [.ref 46, .int x, .int y]) := by
  obtain ⟨hs, hM, hX⟩ := id h
  have h5 := hs.2.1
  have cX : z_nm x (D 0 7) ↔ vp_in x (s 0 1) := by rw [hX.2.1]; exact z_nm_in (by omega)
  have cM : z_wi x 0 (D 46 5 - 1) ↔ vp_in x (s 0 1) := by rw [hM.2.1]; exact z_wi_in (by omega)
  refine bX3_those_0 (fun a b => ?_) (fun a b => bX4_those_0 (fun _ q => absurd ((z_wi_4 _).mp q) b) (fun _ _ => ⟨rfl, s, h⟩) (fun q => absurd (cM.mpr (cX.mp a)) q)) (fun a => bX4_those_0 (fun q => absurd (cX.mpr (cM.mp q)) a) (fun q => absurd (cX.mpr (cM.mp q)) a) (fun _ => ⟨rfl, s, h⟩))
  have a' := cX.mp a
  obtain ⟨n, hn, rfl, hn2⟩ := z_inN a'
  obtain ⟨how, hh, rfl, -⟩ := z_inN b
  have en0 : (nI n).toNatClampNeg = n := nI_clamp hn2
  have hhm := hs.2.2.2.2.2.1 n hn
  have lX : ∀ (m p : Nat) (E : zM), p + m = 10 → fO 32 D E → z_Ok mX3_those 25 [some (.ref 0), some (.int (nI n)), some (.int (nI how)), some (.int (nI (bm (thN s n how) p))), some (.int (nI p))] [] E (z_pi (fun v E => v = nI (bm (thN s n how) 10) ∧ fO 32 D E)) := by
    intro m
    induction m with
    | zero =>
      intro p E hp hag
      have e1 : (10 ≤ nI p) = True := by rw [nI10 p (by omega)]; simp; omega
      apply bX3_those_25 <;> simp only [e1, not_true, false_imp_iff, true_imp_iff]
      exact ⟨by rw [show p = 10 by omega], hag⟩
    | succ m ih =>
      intro p E hp hag
      have e1 : (10 ≤ nI p) = False := by rw [nI10 p (by omega)]; simp; omega
      have hXE := hag.ix (Or.inl rfl) hX
      have ih' := fun E => ih (p + 1) E (by omega)
      rw [nI_succ p] at ih'
      apply bX3_those_25 <;> simp only [e1, en0, hXE.2.2.2.2.2.1 n hn, not_false_eq_true, false_imp_iff, true_imp_iff]
      · exact vp_in_nI (by omega) (by omega)
      · refine sX3_those_54 (uX1_go hXE hs (Or.inl rfl) (z_sh40 n (by omega)) (by omega) (hXE.ar hs (by omega)) hhm (show p < 10 by omega)) (fun F hF => ?_)
        have hb := (folR_le hs (arN s n) (s 5 n) p).1
        have i13 : (F 32 4 = nI how) = ((folR s (arN s n) (s 5 n) p).1 = how) := by rw [hF.1.1]; exact propext (nI_eq (by omega) (by omega))
        apply bX3_those_57 <;> simp only [i13, nb_sh1 p (by omega), nb_or]
        · intro w
          have := ih' F (hag.trans hF.2)
          rw [bm_no (by simp [thN, w])] at this
          exact this
        · intro w
          rw [bm_yes (f := thN s n how) (by simp [thN, w])]
          exact ih' F (hag.trans hF.2)
  refine z_weak (lX 10 0 D (by omega) fO.rfl) (fun o E hE => ?_)
  cases o with
  | none => exact hE.elim
  | some r =>
    obtain ⟨rfl, hfo⟩ := hE
    have hag := hfo.ag (Or.inl rfl)
    have hME := zI.M hM hag (by decide)
    have cM2 : z_wi (nI n) 0 (E 46 5 - 1) := by rw [hME.2.1]; exact (z_wi_in (by omega)).mpr a'
    refine bX4_those_0 (fun _ _ => ?_) (fun _ q => absurd ((z_wi_4 _).mpr b) q) (fun q => absurd cM2 q)
    refine sX4_those_24 (uX4_laysArrows hME hs (show n < 5 by omega)) (fun F hF => bX4_those_27 ?_)
    have hMF := hME.ag hF.2 (by decide) (by decide)
    have lM : ∀ (m p : Nat) (G : zM), p + m = 10 → z_ag 46 [55, 56] [13, 14, 15] F G → z_Ok mX4_those 32 [some (.ref 46), some (.int (nI n)), some (.int (nI how)), some (.int (nI (bm (thN s n how) p))), some (.int (nI p))] [] G (z_pi (fun v G => v = nI (bm (thN s n how) 10) ∧ z_ag 46 [55, 56] [13, 14, 15] F G)) := by
      intro m
      induction m with
      | zero =>
        intro p G hp hag
        have e1 : (10 ≤ nI p) = True := by rw [nI10 p (by omega)]; simp; omega
        apply bX4_those_32 <;> simp only [e1, not_true, false_imp_iff, true_imp_iff]
        exact ⟨by rw [show p = 10 by omega], hag⟩
      | succ m ih =>
        intro p G hp hag
        have e1 : (10 ≤ nI p) = False := by rw [nI10 p (by omega)]; simp; omega
        have hMG := hMF.ag hag (by decide) (by decide)
        have ih' := fun E => ih (p + 1) E (by omega)
        rw [nI_succ p] at ih'
        apply bX4_those_32 <;> simp only [e1, not_false_eq_true, false_imp_iff, true_imp_iff]
        refine sX4_those_43 (uX4_follows hMG hs (hF.1.ag hag (by decide)) hn (show p < 10 by omega)) (fun K hK => ?_)
        have hb := (folR_le hs (arN s n) (s 5 n) p).1
        have i13 : (K 46 13 = nI how) = ((folR s (arN s n) (s 5 n) p).1 = how) := by rw [hK.1.1]; exact propext (nI_eq (by omega) (by omega))
        apply bX4_those_46 <;> simp only [i13, nb_sh1 p (by omega), nb_or, z_or0]
        · intro w
          have := ih' K (hag.trans hK.2)
          rw [bm_no (by simp [thN, w])] at this
          exact this
        · intro w
          rw [bm_yes (f := thN s n how) (by simp [thN, w])]
          exact ih' K (hag.trans hK.2)
    refine z_weak (lM 10 0 F (by omega) z_ag.rfl) (fun o G hG => ?_)
    cases o with
    | none => exact hG.elim
    | some r =>
      exact ⟨hG.1, s, h.after hag ((hF.2.mono (ps' := [54, 55, 56]) (ks' := [13, 14, 15]) (by decide) (by decide)).trans (hG.2.mono (by decide) (by decide))) (by decide) (by decide) (by decide) (by decide)⟩
