/-! idle, the class; idle side by side -/
def TP : List Nat := [32, 33, 34, 35, 36, 37, 45]
theorem TP_ix {D E : zM} {s : zA} (h : z_ag 0 TP [] D E) (hX : IX D s) : IX E s := hX.ag h (by decide) (by decide)
theorem cpy10 (f g : Nat → Int32) {q : Nat} (h : q < 10) : va_cpy f g (0 : Int32).toNatClampNeg (0 : Int32).toNatClampNeg (10 : Int32).toNatClampNeg q = f q := by
  show (if 0 ≤ q ∧ q < 0 + 10 then f (0 + (q - 0)) else g q) = f q
  rw [if_pos ⟨Nat.zero_le _, by omega⟩]
  simp
theorem rowNe {s : zA} {D E : zM} (hX : IX D s) (h : z_ag 0 TP [] D E) {n : Nat} (hn : n < 5) : E (40 + n) = D (40 + n) := h.1 _ (by omega) (by simp [TP]; omega)
set_option maxRecDepth 20000 in
theorem uX3_isIdle {D : zM} {s : zA} (hX : IX D s) (hs : WF s) {n pl : Nat} (hn : n < s 0 1) (hpl : pl < 10) : z_Ci mX3_isIdle [.ref 0, .int (nI pl), .int (nI n)] D (fun r E => r = bI (idA s n pl 10) ∧ z_ag 0 TP [] D E) := by
  have h5 := hs.2.1
  have hhm := hs.2.2.2.2.2.1 n hn
  have epl : (nI pl).toNatClampNeg = pl := nI_clamp (by omega)
  have en0 : (nI n).toNatClampNeg = n := nI_clamp (by omega)
  refine bX3_isIdle_0 (vp_in_nI (by omega) (by omega)) ?_
  rw [en0]
  refine z_copy (n0 := 10) (n1 := 10) dX3_isIdle_14 kRX3_182 (by decide) (z_sh40 n (by omega)) rfl (by decide) (by decide) (by decide) (by decide) (by decide) rfl ?_
  refine bX3_isIdle_17 (vp_in_nI hpl (by omega)) ?_
  rw [epl]
  generalize hE0 : z_up (z_row D 45 (va_cpy (D (40 + n)) (D 45) (0 : Int32).toNatClampNeg (0 : Int32).toNatClampNeg (10 : Int32).toNatClampNeg)) 45 pl (-9) = E0
  have hag0 : z_ag 0 TP [] D E0 := by
    rw [← hE0]
    exact (z_ag.rfl.row _ (by decide) (by decide)).up _ _ (by decide) (by decide)
  have hA0 : ∀ q, q < 10 → E0 45 q = oI (arX s n pl q) := fun q hq => by
    by_cases e : q = pl
    · rw [← hE0, e, z_up_eq]; simp [arX, oI]
    · rw [← hE0, z_up_k e, z_row_eq, cpy10 _ _ hq, hX.2.2.2.2.2.2.1 q hq n (by omega)]
      simp [arX, e, arN]
  have loop : ∀ (m p : Nat) (E : zM), p + m = 10 → idA s n pl p = true → (∀ q, q < 10 → E 45 q = oI (arX s n pl q)) → z_ag 0 TP [] D E → z_Ok mX3_isIdle 27 [some (.ref 0), some (.int (nI pl)), some (.int (nI n)), some (.int (nI p))] [] E (z_pi (fun r E => r = bI (idA s n pl 10) ∧ z_ag 0 TP [] D E)) := by
    intro m
    induction m with
    | zero =>
      intro p E hp hid hE hag
      have e1 : (10 ≤ nI p) = True := by rw [nI10 p (by omega)]; simp; omega
      apply bX3_isIdle_27 <;> simp only [e1, not_true, false_imp_iff, true_imp_iff]
      rw [show p = 10 by omega] at hid
      exact ⟨by rw [hid]; rfl, hag⟩
    | succ m ih =>
      intro p E hp hid hE hag
      have e1 : (10 ≤ nI p) = False := by rw [nI10 p (by omega)]; simp; omega
      have hXE := TP_ix hag hX
      have iz := zb_en hs hXE.2.2.1 (show p < 10 by omega)
      have ih' := fun E => ih (p + 1) E (by omega)
      rw [nI_succ p] at ih'
      apply bX3_isIdle_27 <;> simp only [e1, iz, en0, hXE.2.2.2.2.2.1 n hn, not_false_eq_true, false_imp_iff, true_imp_iff]
      · exact fun _ => vp_in_nI (by omega) (by omega)
      · intro c
        refine sX3_isIdle_65 (uX1_go hXE hs (Or.inl rfl) (z_sh40 n (by omega)) (by omega) (hXE.ar hs (by omega)) hhm (show p < 10 by omega)) (fun F hF => bX3_isIdle_68 (vp_in_nI (by omega) (by omega)) ?_)
        have hXF := hF.2.ix (Or.inl rfl) hXE
        rw [en0, hXF.2.2.2.2.2.1 n hn]
        have hAF : AX F 45 (arX s n pl) := ⟨fun q hq => by rw [hF.2 45 (by omega) (by omega) (by omega)]; exact hE q hq, arX_lt hs (by omega)⟩
        refine sX3_isIdle_87 (uX1_go hXF hs (Or.inr rfl) (r := 45) rfl (by omega) hAF hhm (show p < 10 by omega)) (fun G hG => bX3_isIdle_90 ?_)
        have hlen := (folR_le hs (arN s n) (s 5 n) p).2.1
        have c32 : ∀ k, G 32 k = F 32 k := fun k => by rw [hG.2 32 (by omega) (by omega) (by omega)]
        have c33 : ∀ k, G 33 k = F 33 k := fun k => by rw [hG.2 33 (by omega) (by omega) (by omega)]
        refine sX3_isIdle_98 (uX1_wentLike (a := (folR s (arN s n) (s 5 n) p).2.1.length) (by rw [c32]; exact hF.1.2.1) hlen) (fun r L hL => ?_)
        obtain ⟨rfl, hL⟩ := hL
        have hagL : z_ag 0 TP [] D L := (hag.trans ((hF.2.ag (Or.inl rfl)).mono (by decide) (by decide))).trans ((hG.2.ag (Or.inr rfl)).mono (by decide) (by decide))
        have hb1 := (folR_le hs (arN s n) (s 5 n) p).1
        have hb2 := (folR_le hs (arX s n pl) (s 5 n) p)
        have key : (L 32 4 = L 35 4 ∧ L 32 2 = L 35 2 ∧ ∀ i, i ≤ (folR s (arN s n) (s 5 n) p).2.1.length → L 33 i = L 36 i) ↔ smW s n pl p = true := by
          rw [c32 4, c32 2, hF.1.1, hF.1.2.1, hG.1.1, hG.1.2.1, nI_eq (by omega) (by omega), nI_eq (by omega) (by omega)]
          simp only [smW, decide_eq_true_eq]
          have hw33 : ∀ i, i ≤ (folR s (arN s n) (s 5 n) p).2.1.length → L 33 i = nI ((p :: (folR s (arN s n) (s 5 n) p).2.1).getD i 0) := fun i hi => by rw [c33]; exact hF.1.2.2.2 i hi
          constructor
          · rintro ⟨q1, q2, q3⟩
            exact ⟨q1, (same_iff hs (show p < 10 by omega) hw33 hG.1.2.2.2 q2).mp q3⟩
          · rintro ⟨q1, q2⟩
            have ql : (folR s (arN s n) (s 5 n) p).2.1.length = (folR s (arX s n pl) (s 5 n) p).2.1.length := by rw [q2]
            exact ⟨q1, ql, (same_iff hs (show p < 10 by omega) hw33 hG.1.2.2.2 ql).mpr q2⟩
        have hL45 : ∀ q, q < 10 → L 45 q = oI (arX s n pl q) := fun q hq => by
          rw [hG.2 45 (by omega) (by omega) (by omega)]; exact hAF.1 q hq
        rcases hL with ⟨q, rfl⟩ | ⟨q, rfl⟩
        · exact bX3_isIdle_101 (fun _ => ih' L (idA_yes hid (Or.inr (key.mp q))) hL45 hagL) (fun w => absurd w (by decide))
        · have hno : smW s n pl p = false := by
            cases h9 : smW s n pl p with
            | false => rfl
            | true => exact absurd (key.mpr h9) q
          have hst := idA_stop (idA_no c hno) m
          rw [show p + 1 + m = 10 by omega] at hst
          exact bX3_isIdle_101 (fun w => absurd rfl w) (fun _ => ⟨by rw [hst]; rfl, hagL⟩)
      · intro c
        have c' : en s p = false := by simpa using c
        exact ih' E (idA_yes hid (Or.inl c')) hE hag
  exact loop 10 0 E0 (by omega) rfl hA0 hag0
theorem nb_sh1' {q : Nat} (h : q < 5) : (1 : Int32) <<< (nI q &&& 31) = nI (2 ^ q) := nb_sh1 q (by omega)
set_option maxRecDepth 20000 in
theorem J_idle {D : zM} {s : zA} (h : zI D s) (x : Int32) : z_Ci mX3_idle [.ref 0, .int x] D (zJ mX4_idle [.ref 46, .int x]) := by
  obtain ⟨hs, hM, hX⟩ := id h
  have h5 := hs.2.1
  refine bX3_idle_0 (fun a => ?_) (fun a => bX4_idle_0 (fun q => absurd q a) (fun _ => ⟨rfl, s, h⟩))
  obtain ⟨pl, hpl, rfl, hpl2⟩ := z_inN a
  have epl : (nI pl).toNatClampNeg = pl := nI_clamp hpl2
  have lX : ∀ (m n : Nat) (E : zM), n + m = s 0 1 → z_ag 0 TP [] D E → z_Ok mX3_idle 13 [some (.ref 0), some (.int (nI pl)), some (.int (nI (bm (idB s pl) n))), some (.int (nI n))] [] E (z_pi (fun r E => r = nI (bm (idB s pl) (s 0 1)) ∧ z_ag 0 TP [] D E)) := by
    intro m
    induction m with
    | zero =>
      intro n E hn hag
      have hXE := TP_ix hag hX
      have e1 : (E 0 7 ≤ nI n) = True := by rw [hXE.2.1, nI_leI (by omega) (by omega)]; simp; omega
      apply bX3_idle_13 <;> simp only [e1, not_true, false_imp_iff, true_imp_iff]
      exact ⟨by rw [show n = s 0 1 by omega], hag⟩
    | succ m ih =>
      intro n E hn hag
      have hXE := TP_ix hag hX
      have e1 : (E 0 7 ≤ nI n) = False := by rw [hXE.2.1, nI_leI (by omega) (by omega)]; simp; omega
      have en0 : (nI n).toNatClampNeg = n := nI_clamp (by omega)
      have i9 : (oI (aO (s 6 (5 * pl + n))) = -9) = (bd s pl n = false) := by
        rw [bd_iff hs (show 5 * pl + n < 50 by omega)]
        simp [bd]
      have ih' := fun E => ih (n + 1) E (by omega)
      rw [nI_succ n] at ih'
      apply bX3_idle_13 <;> simp only [e1, en0, epl, hXE.2.2.2.2.2.2.1 pl hpl n (by omega), i9, not_false_eq_true, false_imp_iff, true_imp_iff]
      · exact vp_in_nI (by omega) (by omega)
      · exact vp_in_nI hpl (by omega)
      · intro c
        have := ih' E hag
        rw [bm_no (by simp [idB, c])] at this
        exact this
      · intro c
        have c' : bd s pl n = true := by simpa using c
        refine sX3_idle_37 (uX3_isIdle hXE hs (show n < s 0 1 by omega) hpl) (fun r F hF => ?_)
        obtain ⟨rfl, hag2⟩ := hF
        have ib : (bI (idA s n pl 10) = 0) = (idA s n pl 10 = false) := propext (bI_0 _)
        apply bX3_idle_40 <;> simp only [ib, nb_sh1' (show n < 5 by omega), nb_or]
        · intro w
          have := ih' F (hag.trans hag2)
          rw [bm_no (by simp [idB, w])] at this
          exact this
        · intro w
          have w' : idA s n pl 10 = true := by simpa using w
          rw [bm_yes (f := idB s pl) (by simp [idB, c', w'])]
          exact ih' F (hag.trans hag2)
  refine z_weak (lX (s 0 1) 0 D (by omega) z_ag.rfl) (fun o E hE => ?_)
  cases o with
  | none => exact hE.elim
  | some r =>
    obtain ⟨rfl, hag⟩ := hE
    have hME := zI.M hM hag (by decide)
    refine bX4_idle_0 (fun _ => ?_) (fun q => absurd a q)
    have lM : ∀ (m n : Nat) (G : zM), n + m = s 0 1 → z_ag 46 [54, 55, 56, 57] [13, 14, 15, 17, 18] E G → z_Ok mX4_idle 13 [some (.ref 46), some (.int (nI pl)), some (.int (nI (bm (idB s pl) n))), some (.int (nI n))] [] G (z_pi (fun r G => r = nI (bm (idB s pl) (s 0 1)) ∧ z_ag 46 [54, 55, 56, 57] [13, 14, 15, 17, 18] E G)) := by
      intro m
      induction m with
      | zero =>
        intro n G hn hag
        have hMG := hME.ag hag (by decide) (by decide)
        have e1 : (G 46 5 ≤ nI n) = True := by rw [hMG.2.1, nI_leI (by omega) (by omega)]; simp; omega
        apply bX4_idle_13 <;> simp only [e1, not_true, false_imp_iff, true_imp_iff]
        exact ⟨by rw [show n = s 0 1 by omega], hag⟩
      | succ m ih =>
        intro n G hn hag
        have hMG := hME.ag hag (by decide) (by decide)
        have e1 : (G 46 5 ≤ nI n) = False := by rw [hMG.2.1, nI_leI (by omega) (by omega)]; simp; omega
        have ih' := fun E => ih (n + 1) E (by omega)
        rw [nI_succ n] at ih'
        apply bX4_idle_13 <;> simp only [e1, not_false_eq_true, false_imp_iff, true_imp_iff]
        refine sX4_idle_25 (uX4_isIdle hMG hs (show n < s 0 1 by omega) hpl) (fun r F hF => ?_)
        obtain ⟨rfl, hag2⟩ := hF
        have ib : (bI (idB s pl n) = 0) = (idB s pl n = false) := propext (bI_0 _)
        apply bX4_idle_28 <;> simp only [ib, nb_sh1' (show n < 5 by omega), nb_or, z_or0]
        · intro w
          have := ih' F (hag.trans hag2)
          rw [bm_no w] at this
          exact this
        · intro w
          have w' : idB s pl n = true := by simpa using w
          rw [bm_yes (f := idB s pl) w']
          exact ih' F (hag.trans hag2)
    refine z_weak (lM (s 0 1) 0 E (by omega) z_ag.rfl) (fun o G hG => ?_)
    cases o with
    | none => exact hG.elim
    | some r => exact ⟨hG.1, s, h.after hag hG.2 (by decide) (by decide) (by decide) (by decide)⟩
