/-! leads -/
def hb (s : zA) (n p : Nat) : Bool := (bst s (fN s n) p).isSome
def HB (s : zA) (n : Nat) : Nat := bm (hb s n) 10
theorem uX4_haveBest {D : zM} {s : zA} (hI : IM D s) (hs : WF s) {n : Nat} (hn : n < s 0 1) : z_Ci mX4_haveBest [.ref 46, .int (nI n)] D (fun r E => r = nI (HB s n) ∧ FA E (fN s n) ∧ z_ag 46 [53] [] D E) := by
  refine bX4_haveBest_0 (sX4_haveBest_2 (uX4_findFar hI hs hn) (fun E hE => bX4_haveBest_5 ?_))
  obtain ⟨hF, hag⟩ := hE
  have hIE := hI.ag hag (by decide) (by decide)
  have hf := farF_bdd hs (s 5 n)
  have loop : ∀ (m p : Nat), p + m = 10 → z_Ok mX4_haveBest 9 [some (.ref 46), some (.int (nI n)), some (.int (nI (bm (hb s n) p))), some (.int (nI p))] [] E (z_pi (fun r E => r = nI (HB s n) ∧ FA E (fN s n) ∧ z_ag 46 [53] [] D E)) := by
    intro m
    induction m with
    | zero =>
      intro p hp
      have e1 : (10 ≤ nI p) = True := by rw [nI10 p (by omega)]; simp; omega
      apply bX4_haveBest_9 <;> simp only [e1, not_true, false_imp_iff, true_imp_iff]
      exact ⟨by rw [show p = 10 by omega]; rfl, hF, hag⟩
    | succ m ih =>
      intro p hp
      have e1 : (10 ≤ nI p) = False := by rw [nI10 p (by omega)]; simp; omega
      have ih' := ih (p + 1) (by omega)
      rw [nI_succ p] at ih'
      apply bX4_haveBest_9 <;> simp only [e1, not_false_eq_true, false_imp_iff, true_imp_iff]
      refine sX4_haveBest_18 (uX4_bestAt hIE hs hF (fun q => hf.le (by omega) q) (show p < 10 by omega)) (fun r F hF' => ?_)
      obtain ⟨rfl, rfl⟩ := hF'
      have ib : (oI (bst s (farF s (s 5 n)) p) = -9) = (hb s n p = false) := oI_lt9 (fun k hk => (bst_spec hk).1)
      apply bX4_haveBest_21 <;> simp only [ib, nb_sh1 p (by omega), nb_or, z_or0]
      · intro w
        rw [bm_no w] at ih'
        exact ih'
      · intro w
        rw [bm_yes (f := hb s n) (by simpa using w)]
        exact ih'
  exact loop 10 0 (by omega)
theorem arS_lt {s : zA} {n c : Nat} : ∀ q t, q < 10 → arS s n c q = some t → t < 10 := fun q t _ h => by
  unfold arS at h
  by_cases e : c.testBit q = true
  · rw [if_pos e] at h; exact (bst_spec h).1
  · rw [if_neg e] at h; cases h
theorem ldP_0 {s : zA} {n c p : Nat} (h : ¬ (folR s (arS s n c) (s 5 n) p).1 = 0) : ldP s n c p = false := by simp [ldP, h]
theorem ldP_1 {s : zA} {n c p : Nat} (h : (folR s (arS s n c) (s 5 n) p).1 = 0) : (ldP s n c p = true) = ((folR s (arS s n c) (s 5 n) p).2.2 ≤ fN s n p + s 0 3) := by simp [ldP, h]
theorem LD_no {s : zA} {n c p : Nat} (hp : p < 10) (h1 : en s p = true) (h2 : ldP s n c p = false) : LD s n c = false := by
  have := LDk_stop (LDk_no h1 h2) (10 - (p + 1))
  rw [show p + 1 + (10 - (p + 1)) = 10 by omega] at this
  exact this
set_option maxRecDepth 20000 in
theorem uX4_doLead {D : zM} {s : zA} (hI : IM D s) (hs : WF s) {n c : Nat} (hn : n < s 0 1) (hc : c < 1024) (hF : FA D (fN s n)) : z_Ci mX4_doLead [.ref 46, .int (nI c), .int (nI n)] D (fun r E => r = bI (LD s n c) ∧ z_ag 46 [54, 55, 56] [13, 14, 15] D E) := by
  have hf := farF_bdd hs (s 5 n)
  have h9 := hs.2.2.2.1
  refine bX4_doLead_0 ?_
  have two : ∀ (m p : Nat) (E : zM), p + m = 10 → LDk s n c p = true → AR E (arS s n c) → z_ag 46 [54, 55, 56] [13, 14, 15] D E → z_Ok mX4_doLead 40 [some (.ref 46), some (.int (nI c)), some (.int (nI n)), some (.int (nI p))] [] E (z_pi (fun r E => r = bI (LD s n c) ∧ z_ag 46 [54, 55, 56] [13, 14, 15] D E)) := by
    intro m
    induction m with
    | zero =>
      intro p E hp hL hA hag
      have e1 : (10 ≤ nI p) = True := by rw [nI10 p (by omega)]; simp; omega
      apply bX4_doLead_40 <;> simp only [e1, not_true, false_imp_iff, true_imp_iff]
      refine ⟨?_, hag⟩
      rw [show p = 10 by omega] at hL
      rw [show LD s n c = true from hL]
      rfl
    | succ m ih =>
      intro p E hp hL hA hag
      have hp10 : p < 10 := by omega
      have e1 : (10 ≤ nI p) = False := by rw [nI10 p (by omega)]; simp; omega
      have ep : (nI p).toNatClampNeg = p := nI_clamp (by omega)
      have hIE := hI.ag hag (by decide) (by decide)
      have iz := zb_en hs hIE.2.2.1 hp10
      have ih' := fun E => ih (p + 1) E (by omega)
      rw [nI_succ p] at ih'
      apply bX4_doLead_40 <;> simp only [e1, iz, not_false_eq_true, false_imp_iff, true_imp_iff]
      · intro w
        refine sX4_doLead_60 (uX4_follows hIE hs hA hn hp10) (fun F hF' => ?_)
        obtain ⟨⟨r1, -, r3, -⟩, hag2⟩ := hF'
        have hag3 := hag.trans (hag2.mono (by decide) (by decide))
        have hIF := hI.ag hag3 (by decide) (by decide)
        obtain ⟨b1, -, b3⟩ := folR_le hs (arS s n c) (s 5 n) p
        have i13 : (F 46 13 = 0) = ((folR s (arS s n c) (s 5 n) p).1 = 0) := by rw [r1, n0]; exact propext (nI_eq (by omega) (by omega))
        have e53 : F 53 p = nI (fN s n p) := by rw [hag3.1 53 (by omega) (by decide)]; exact hF p hp10
        have hfp : fN s n p ≤ 100000 := hf.le (by omega) p
        have i15 : (F 46 15 ≤ F 53 p + F 46 8) = ((folR s (arS s n c) (s 5 n) p).2.2 ≤ fN s n p + s 0 3) := by
          rw [r3, e53, hIF.2.2.2.1, nI_add]
          exact propext (nI_leI (by omega) (by omega))
        have hAF : AR F (arS s n c) := hA.ag hag2 (by decide)
        apply bX4_doLead_63 <;> simp only [i13, ep, i15]
        · exact fun _ => vp_in_nI hp10 (by omega)
        · intro z
          exact ⟨by rw [LD_no hp10 w (ldP_0 z)]; rfl, hag3⟩
        · intro z1 z2
          exact ih' F (LDk_yes hL (Or.inr ((ldP_1 z1).mpr z2))) hAF hag3
        · intro z1 z2
          have : ldP s n c p = false := by
            cases h9 : ldP s n c p with
            | false => rfl
            | true => exact absurd ((ldP_1 z1).mp h9) z2
          exact ⟨by rw [LD_no hp10 w this]; rfl, hag3⟩
      · intro w
        exact ih' E (LDk_yes hL (Or.inl (by simpa using w))) hA hag
  have one : ∀ (m p : Nat) (E : zM), p + m = 10 → (∀ q, q < p → E 54 q = oI (arS s n c q)) → z_ag 46 [54, 55, 56] [13, 14, 15] D E → z_Ok mX4_doLead 2 [some (.ref 46), some (.int (nI c)), some (.int (nI n)), some (.int (nI p))] [] E (z_pi (fun r E => r = bI (LD s n c) ∧ z_ag 46 [54, 55, 56] [13, 14, 15] D E)) := by
    intro m
    induction m with
    | zero =>
      intro p E hp hA hag
      have e1 : (10 ≤ nI p) = True := by rw [nI10 p (by omega)]; simp; omega
      apply bX4_doLead_2 <;> simp only [e1, not_true, false_imp_iff, true_imp_iff]
      exact two 10 0 E (by omega) rfl ⟨fun q hq => hA q (by omega), arS_lt⟩ hag
    | succ m ih =>
      intro p E hp hA hag
      have hp10 : p < 10 := by omega
      have e1 : (10 ≤ nI p) = False := by rw [nI10 p (by omega)]; simp; omega
      have ep : (nI p).toNatClampNeg = p := nI_clamp (by omega)
      have hIE := hI.ag hag (by decide) (by decide)
      have iz : zb (nI c) (nI p) = (c.testBit p = true) := propext (zb_bit (by omega) hp10)
      have ih' := fun E => ih (p + 1) E (by omega)
      rw [nI_succ p] at ih'
      have upA : ∀ (v : Int32), v = oI (arS s n c p) → ∀ q, q < p + 1 → (z_up E 54 p v) 54 q = oI (arS s n c q) := fun v hv q hq => by
        by_cases e : q = p
        · rw [e, z_up_eq]; exact hv
        · rw [z_up_k e]; exact hA q (by omega)
      have hFE : FA E (fN s n) := fun q hq => by rw [hag.1 53 (by omega) (by decide)]; exact hF q hq
      apply bX4_doLead_2 <;> simp only [e1, iz, ep, not_false_eq_true, false_imp_iff, true_imp_iff]
      · exact fun _ => vp_in_nI hp10 (by omega)
      · intro w
        refine sX4_doLead_23 (uX4_bestAt hIE hs hFE (fun q => hf.le (by omega) q) hp10) (fun r F hF' => ?_)
        obtain ⟨rfl, rfl⟩ := hF'
        refine bX4_doLead_26 (vp_in_nI hp10 (by omega)) ?_
        rw [ep]
        exact ih' _ (upA _ (by simp [arS, w])) (hag.up _ _ (by decide) (by decide))
      · intro w
        exact ih' _ (upA _ (by simp [arS, w, oI])) (hag.up _ _ (by decide) (by decide))
  exact one 10 0 D (by omega) (fun q hq => by omega) z_ag.rfl
/-- a set is one of places that have a best -/
def sub (s : zA) (n c : Nat) : Bool := decide (bm (fun q => c.testBit q && !(HB s n).testBit q) 10 = 0)
theorem HB_lt (s : zA) (n : Nat) : HB s n < 1024 := bm_lt _ 10
theorem HB_bit {s : zA} {n q : Nat} (hq : q < 10) : (HB s n).testBit q = hb s n q := by unfold HB; rw [bm_bit]; simp [hq]
theorem sub_I {s : zA} {n c : Nat} (hc : c < 1024) : (nI c &&& (nI (HB s n) ^^^ -1) = 0) = (sub s n c = true) := by
  have := bm_lt (fun q => c.testBit q && !(HB s n).testBit q) 10
  rw [nb_andn hc, n0, propext (nI_eq (by omega) (by omega))]
  simp [sub]
theorem sub_iff {s : zA} {n c : Nat} (hc : c < 1024) : sub s n c = true ↔ ∀ q, c.testBit q = true → hb s n q = true := by
  unfold sub
  rw [decide_eq_true_eq, bm_none]
  constructor
  · intro h q hq
    have hq10 : q < 10 := by
      rcases Nat.lt_or_ge q 10 with z | z
      · exact z
      · rw [Nat.testBit_lt_two_pow (Nat.lt_of_lt_of_le hc (Nat.pow_le_pow_right (n := 2) (by omega) z))] at hq
        cases hq
    have := z_fst_none h q (by omega) (by omega)
    rw [HB_bit hq10, hq] at this
    simpa using this
  · intro h
    refine z_fst_no (fun i _ hi => ?_)
    rw [HB_bit (by omega)]
    cases hi2 : c.testBit i with
    | false => rfl
    | true => rw [h i hi2]; rfl
theorem uX4_leadsTo {D : zM} {s : zA} (hI : IM D s) (hs : WF s) {n c : Nat} (hn : n < s 0 1) (hc : c < 1024) : z_Ci mX4_leadsTo [.ref 46, .int (nI c), .int (nI n)] D (fun r E => r = bI (sub s n c && LD s n c) ∧ z_ag 46 [53, 54, 55, 56] [13, 14, 15] D E) := by
  refine bX4_leadsTo_0 (sX4_leadsTo_3 (uX4_haveBest hI hs hn) (fun r E hE => ?_))
  obtain ⟨rfl, hF, hag⟩ := hE
  have hIE := hI.ag hag (by decide) (by decide)
  have hag' := hag.mono (ps' := [53, 54, 55, 56]) (ks' := [13, 14, 15]) (by decide) (by decide)
  apply bX4_leadsTo_6 <;> simp only [sub_I hc]
  · intro w
    have : sub s n c = false := by simpa using w
    exact ⟨by rw [this]; rfl, hag'⟩
  · intro w
    refine sX4_leadsTo_15 (uX4_doLead hIE hs hn hc hF) (fun r F hF2 => ?_)
    obtain ⟨rfl, hag2⟩ := hF2
    have hag3 := hag'.trans (hag2.mono (by decide) (by decide))
    apply bX4_leadsTo_18 <;> simp only [bI_0]
    · intro z
      exact ⟨by rw [z, Bool.and_false]; rfl, hag3⟩
    · intro z
      have z' : LD s n c = true := by simpa using z
      exact ⟨by rw [z', w]; rfl, hag3⟩
set_option maxRecDepth 20000 in
/-- the class: whether a set leads, where the guide is drawn -/
theorem uX3_wouldLead {D : zM} {s : zA} (hX : IX D s) (hs : WF s) {n c : Nat} (hn : n < s 0 1) (hc : c < 1024) (hG : GD D s n) : z_Ci mX3_wouldLead [.ref 0, .int (nI c), .int (nI n)] D (fun r E => r = bI (sub s n c && LD s n c) ∧ z_ag 0 TP [] D E) := by
  have h5 := hs.2.1
  have h9 := hs.2.2.2.1
  have hhm := hs.2.2.2.2.2.1 n hn
  have hf := farF_bdd hs (s 5 n)
  have en0 : (nI n).toNatClampNeg = n := nI_clamp (by omega)
  obtain ⟨g1, g2, g3⟩ := hG
  have g3' : D 31 n = nI (HB s n) := g3
  apply bX3_wouldLead_0 <;> try simp only [en0, g3', sub_I hc]
  · exact vp_in_nI (by omega) (by omega)
  · intro hsub
    rw [hsub, Bool.true_and]
    have two : ∀ (m p : Nat) (E : zM), p + m = 10 → LDk s n c p = true → AX E 45 (arS s n c) → z_ag 0 TP [] D E → z_Ok mX3_wouldLead 64 [some (.ref 0), some (.int (nI c)), some (.int (nI n)), some (.int (nI p))] [] E (z_pi (fun r E => r = bI (LD s n c) ∧ z_ag 0 TP [] D E)) := by
      intro m
      induction m with
      | zero =>
        intro p E hp hL hA hag
        have e1 : (10 ≤ nI p) = True := by rw [nI10 p (by omega)]; simp; omega
        apply bX3_wouldLead_64 <;> simp only [e1, not_true, false_imp_iff, true_imp_iff]
        refine ⟨?_, hag⟩
        rw [show p = 10 by omega] at hL
        rw [show LD s n c = true from hL]
        rfl
      | succ m ih =>
        intro p E hp hL hA hag
        have hp10 : p < 10 := by omega
        have e1 : (10 ≤ nI p) = False := by rw [nI10 p (by omega)]; simp; omega
        have ep : (nI p).toNatClampNeg = p := nI_clamp (by omega)
        have hXE := TP_ix hag hX
        have iz := zb_en hs hXE.2.2.1 hp10
        have ih' := fun E => ih (p + 1) E (by omega)
        rw [nI_succ p] at ih'
        apply bX3_wouldLead_64 <;> simp only [e1, iz, en0, hXE.2.2.2.2.2.1 n hn, not_false_eq_true, false_imp_iff, true_imp_iff]
        · exact fun _ => vp_in_nI (by omega) (by omega)
        · intro w
          refine sX3_wouldLead_100 (uX1_go hXE hs (Or.inl rfl) (r := 45) rfl (by omega) hA hhm hp10) (fun F hF' => ?_)
          obtain ⟨⟨r1, -, r3, -⟩, hfo⟩ := hF'
          have hag3 : z_ag 0 TP [] D F := hag.trans ((hfo.ag (Or.inl rfl)).mono (by decide) (by decide))
          have hXF := TP_ix hag3 hX
          obtain ⟨b1, -, b3⟩ := folR_le hs (arS s n c) (s 5 n) p
          have i13 : (F 32 4 = 0) = ((folR s (arS s n c) (s 5 n) p).1 = 0) := by rw [r1, n0]; exact propext (nI_eq (by omega) (by omega))
          have e20 : F (20 + n) p = fI (fN s n p) := by rw [hag3.1 (20 + n) (by omega) (by simp [TP]; omega)]; exact g1 p hp10
          have hAF : AX F 45 (arS s n c) := ⟨fun t ht => by rw [hfo 45 (by omega) (by omega) (by omega)]; exact hA.1 t ht, hA.2⟩
          have i15 : (folR s (arS s n c) (s 5 n) p).1 = 0 → (F 32 3 ≤ F (20 + n) p + F 0 9) = ((folR s (arS s n c) (s 5 n) p).2.2 ≤ fN s n p + s 0 3) := fun z => by
            have hn1 : fN s n p < 100000 := arr_near hs hhm 29 p none _ z
            rw [r3, e20, fI_n (by omega), hXF.2.2.2.1, nI_add]
            exact propext (nI_leI (by omega) (by omega))
          apply bX3_wouldLead_103 <;> simp only [i13, ep, en0]
          · exact fun _ => vp_in_nI (by omega) (by omega)
          · exact fun _ => vp_in_nI hp10 (by omega)
          · intro z
            exact ⟨by rw [LD_no hp10 w (ldP_0 z)]; rfl, hag3⟩
          · intro z1 z2
            rw [i15 z1] at z2
            exact ih' F (LDk_yes hL (Or.inr ((ldP_1 z1).mpr z2))) hAF hag3
          · intro z1 z2
            rw [i15 z1] at z2
            have : ldP s n c p = false := by
              cases h9 : ldP s n c p with
              | false => rfl
              | true => exact absurd ((ldP_1 z1).mp h9) z2
            exact ⟨by rw [LD_no hp10 w this]; rfl, hag3⟩
        · intro w
          exact ih' E (LDk_yes hL (Or.inl (by simpa using w))) hA hag
    have one : ∀ (m p : Nat) (E : zM), p + m = 10 → (∀ q, q < p → E 45 q = oI (arS s n c q)) → z_ag 0 TP [] D E → z_Ok mX3_wouldLead 20 [some (.ref 0), some (.int (nI c)), some (.int (nI n)), some (.int (nI p))] [] E (z_pi (fun r E => r = bI (LD s n c) ∧ z_ag 0 TP [] D E)) := by
      intro m
      induction m with
      | zero =>
        intro p E hp hA hag
        have e1 : (10 ≤ nI p) = True := by rw [nI10 p (by omega)]; simp; omega
        apply bX3_wouldLead_20 <;> simp only [e1, not_true, false_imp_iff, true_imp_iff]
        exact two 10 0 E (by omega) rfl ⟨fun q hq => hA q (by omega), arS_lt⟩ hag
      | succ m ih =>
        intro p E hp hA hag
        have hp10 : p < 10 := by omega
        have e1 : (10 ≤ nI p) = False := by rw [nI10 p (by omega)]; simp; omega
        have ep : (nI p).toNatClampNeg = p := nI_clamp (by omega)
        have iz : zb (nI c) (nI p) = (c.testBit p = true) := propext (zb_bit (by omega) hp10)
        have ih' := fun E => ih (p + 1) E (by omega)
        rw [nI_succ p] at ih'
        have upA : ∀ (v : Int32), v = oI (arS s n c p) → ∀ q, q < p + 1 → (z_up E 45 p v) 45 q = oI (arS s n c q) := fun v hv q hq => by
          by_cases e : q = p
          · rw [e, z_up_eq]; exact hv
          · rw [z_up_k e]; exact hA q (by omega)
        have e26 : E (26 + n) p = oI (bst s (fN s n) p) := by rw [hag.1 (26 + n) (by omega) (by simp [TP]; omega)]; exact g2 p hp10
        apply bX3_wouldLead_20 <;> simp only [e1, iz, ep, en0, not_false_eq_true, false_imp_iff, true_imp_iff]
        · exact fun _ => vp_in_nI (by omega) (by omega)
        · exact fun _ => vp_in_nI hp10 (by omega)
        · exact fun _ => vp_in_nI hp10 (by omega)
        · intro w
          exact ih' _ (upA _ (by rw [e26]; simp [arS, w])) (hag.up _ _ (by decide) (by decide))
        · intro w
          exact ih' _ (upA _ (by simp [arS, w, oI])) (hag.up _ _ (by decide) (by decide))
    exact one 10 0 D (by omega) (fun q hq => by omega) z_ag.rfl
  · intro w
    have : sub s n c = false := by simpa using w
    exact ⟨by rw [this]; rfl, z_ag.rfl⟩
theorem z_wi_1023 {x : Int32} : (¬ x < 0 ∧ x ≤ 1023) ↔ z_wi x 0 1023 := by
  unfold z_wi
  rw [Int32.not_lt]
theorem z_wi1023 {x : Int32} : z_wi x 0 1023 ↔ vp_in x 1024 := by
  unfold z_wi
  rw [vp_in_iff, Int32.le_iff_toInt_le, Int32.le_iff_toInt_le, show (0 : Int32).toInt = 0 by decide, show (1023 : Int32).toInt = 1023 by decide]
  omega
set_option maxRecDepth 20000 in
theorem J_leads {D : zM} {s : zA} (h : zI D s) (x y : Int32) : z_Ci mX3_leads [.ref 0, .int x, .int y] D (zJ mX4_leads [.ref 46, .int x, .int y]) := by
  obtain ⟨hs, hM, hX⟩ := id h
  have h5 := hs.2.1
  have cX : z_nm y (D 0 7) ↔ vp_in y (s 0 1) := by rw [hX.2.1]; exact z_nm_in (by omega)
  have cM : z_wi y 0 (D 46 5 - 1) ↔ vp_in y (s 0 1) := by rw [hM.2.1]; exact z_wi_in (by omega)
  have f2 : vp_in y (s 0 1) → ¬ z_wi x 0 1023 → zJ mX4_leads [.ref 46, .int x, .int y] (-2) D := fun b c => bX4_leads_0 (fun _ q => absurd q c) (fun _ _ => ⟨rfl, s, h⟩) (fun q => absurd (cM.mpr b) q)
  refine bX3_leads_0 (fun b _ _ => z_in_mono (cX.mp b) h5) (fun b c => f2 (cX.mp b) (fun q => (z_wi_1023.mpr q).1 c)) (fun b c0 d => ?_) (fun b c d => f2 (cX.mp b) (fun q => d (z_wi_1023.mpr q).2)) (fun b => bX4_leads_0 (fun q => absurd (cX.mpr (cM.mp q)) b) (fun q => absurd (cX.mpr (cM.mp q)) b) (fun _ => ⟨rfl, s, h⟩))
  have b' := cX.mp b
  have hw := z_wi_1023.mp ⟨c0, d⟩
  obtain ⟨c, hc, rfl, -⟩ := z_inN (z_wi1023.mp hw)
  obtain ⟨n, hn, rfl, hn2⟩ := z_inN b'
  have en : (nI n).toNatClampNeg = n := nI_clamp hn2
  rw [en, hX.2.2.2.2.2.1 n hn]
  refine sX3_leads_39 (uX2_draw hX hs hn) (fun E hE => bX3_leads_42 ?_)
  obtain ⟨hGD, hGO⟩ := hE
  have hag := (hGO.ag (by omega)).mono (ps' := GP ++ TP) (ks' := []) (by decide) (by decide)
  have hXE : IX E s := hX.ag hag (by decide) (by decide)
  refine sX3_leads_45 (uX3_wouldLead hXE hs hn hc hGD) (fun r F hF => ?_)
  obtain ⟨rfl, hagF⟩ := hF
  have hag2 := hag.trans (hagF.mono (by decide) (by decide))
  have hMF := zI.M hM hag2 (by decide)
  have cM2 : z_wi (nI n) 0 (F 46 5 - 1) := by rw [hMF.2.1]; exact (z_wi_in (by omega)).mpr b'
  have fin : ∀ r, ((sub s n c && LD s n c) = false → r = 0) → ((sub s n c && LD s n c) = true → r = 1) → zJ mX4_leads [.ref 46, .int (nI c), .int (nI n)] r F := fun r r0 r1 => by
    refine bX4_leads_0 (fun _ _ => ?_) (fun _ q => absurd hw q) (fun q => absurd cM2 q)
    refine sX4_leads_27 (uX4_leadsTo hMF hs hn hc) (fun v K hK => ?_)
    obtain ⟨rfl, hagK⟩ := hK
    have hz := h.after hag2 hagK (by decide) (by decide) (by decide) (by decide)
    apply bX4_leads_30 <;> simp only [bI_0]
    · intro w; exact ⟨(r0 w).symm, s, hz⟩
    · intro w; exact ⟨(r1 (by simpa using w)).symm, s, hz⟩
  apply bX3_leads_48 <;> simp only [bI_0]
  · intro w; exact fin 0 (fun _ => rfl) (fun q => by rw [w] at q; cases q)
  · intro w; exact fin 1 (fun q => absurd q w) (fun _ => rfl)
