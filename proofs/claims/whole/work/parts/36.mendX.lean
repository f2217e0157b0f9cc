/-! mend, the class -/
/-- what findMend has found -/
def MX (D : zM) (s : zA) (now : Nat) (o : Option Nat) : Prop := match o with
  | none => D 0 10 = -9 ∧ D 0 11 = -9 ∧ D 0 12 = -9
  | some y => D 0 10 = nI (y / 5) ∧ D 0 11 = nI (y % 5) ∧ D 0 12 = nI (now + mo s y)
def MP : List Nat := [20, 21, 22, 23, 24, 26, 27, 28, 29, 30, 31, 32, 33, 34, 35, 36, 37, 45]
theorem MP_ix {D E : zM} {s : zA} (h : z_ag 0 MP [10, 11, 12] D E) (hX : IX D s) : IX E s := hX.ag h (by decide) (by decide)
theorem MX.keep {D E : zM} {s : zA} {now : Nat} {o : Option Nat} (h : MX D s now o) (hE : ∀ k, E 0 k = D 0 k) : MX E s now o := by
  cases o with
  | none => exact ⟨by rw [hE]; exact h.1, by rw [hE]; exact h.2.1, by rw [hE]; exact h.2.2⟩
  | some y => exact ⟨by rw [hE]; exact h.1, by rw [hE]; exact h.2.1, by rw [hE]; exact h.2.2⟩
set_option maxRecDepth 20000 in
theorem uX3_offerMend {D : zM} {s : zA} {now : Nat} (hnow : now ≤ 50) {S T : Nat → Prop} {o : Option Nat} (hO : Opt (mo s) S o) (hM : MX D s now o) {p n z : Nat} (hp : p < 10) (hn : n < 5) (hz : z = 5 * p + n) (hpos : 0 < mo s z) (hS : ∀ x, S x → x % 5 ≤ n ∧ x < 50) (hST : ∀ x, T x ↔ (S x ∨ x = z)) :
    z_Cv mX3_offerMend [.ref 0, .int (nI p), .int (nI n), .int (nI (now + mo s z))] D (fun E => (∃ o, Opt (mo s) T o ∧ MX E s now o) ∧ z_ag 0 [] [10, 11, 12] D E) := by
  have hml := mo_le s z
  have ez1 : z / 5 = p := by omega
  have ez2 : z % 5 = n := by omega
  have set : Opt (mo s) T (some z) → (∃ o, Opt (mo s) T o ∧ MX (z_up (z_up (z_up D 0 10 (nI p)) 0 11 (nI n)) 0 12 (nI (now + mo s z))) s now o) ∧ z_ag 0 [] [10, 11, 12] D (z_up (z_up (z_up D 0 10 (nI p)) 0 11 (nI n)) 0 12 (nI (now + mo s z))) := by
    intro h
    refine ⟨⟨some z, h, ?_, ?_, ?_⟩, ((z_ag.rfl.fld _ (by decide)).fld _ (by decide)).fld _ (by decide)⟩
    · rw [z_up_k (by omega), z_up_k (by omega), z_up_eq, ez1]
    · rw [z_up_k (by omega), z_up_eq, ez2]
    · rw [z_up_eq]
  cases o with
  | none =>
    have h12 : D 0 12 < nI (now + mo s z) := by
      rw [hM.2.2]
      have : now + mo s z ≤ 60 := by omega
      have key : ∀ m, m ≤ 60 → (-9 : Int32) < nI m := by decide +kernel
      exact key _ this
    exact bX3_offerMend_0 (fun _ => set (hO.take hST hpos trivial)) (fun w => absurd h12 w) (fun w => absurd h12 w) (fun w => absurd h12 w)
  | some y =>
    have hy := hS y hO.1
    have hmy := mo_le s y
    have i1 : D 0 12 < nI (now + mo s z) ↔ mo s y < mo s z := by rw [hM.2.2, nI_ltI (by omega) (by omega)]; omega
    have i2 : nI (now + mo s z) = D 0 12 ↔ mo s z = mo s y := by rw [hM.2.2, nI_eq (by omega) (by omega)]; omega
    have i3 : D 0 10 ≤ nI p ↔ y / 5 ≤ p := by rw [hM.1, nI_leI (by omega) (by omega)]
    refine bX3_offerMend_0 (fun w => set (hO.take hST hpos (Or.inl (i1.mp w)))) (fun w1 w2 => ?_) (fun w1 w2 w3 => ?_) (fun w1 w2 w3 => set (hO.take hST hpos (Or.inr ⟨(i2.mp w2).symm, ?_⟩)))
    · refine ⟨⟨some y, hO.pass hST (Or.inl ?_), hM⟩, z_ag.rfl⟩
      have a1 : ¬ mo s y < mo s z := fun q => w1 (i1.mpr q)
      have a2 : ¬ mo s z = mo s y := fun q => w2 (i2.mpr q)
      omega
    · refine ⟨⟨some y, hO.pass hST (Or.inr ⟨i2.mp w2, ?_⟩), hM⟩, z_ag.rfl⟩
      have := i3.mp w3
      omega
    · have : ¬ y / 5 ≤ p := fun q => w3 (i3.mpr q)
      omega
theorem GO_MP {n : Nat} {D E : zM} (hn : n < 5) (h : GO n D E) : z_ag 0 MP [10, 11, 12] D E := (h.ag hn).mono (by decide) (by decide)
theorem fO_MP {D E : zM} (h : fO 32 D E) : z_ag 0 MP [10, 11, 12] D E := (h.ag (Or.inl rfl)).mono (by decide) (by decide)
theorem endsN_ge {s : zA} {n : Nat} (hn : n < s 0 1) : bN s n ≤ endsN s 0 := by
  unfold endsN
  have key : ∀ (m : Nat), n < m → bN s n ≤ sm (fun n => mE s (arN s n) (s 5 n) 0) m := by
    intro m
    induction m with
    | zero => intro h; omega
    | succ m ih =>
      intro h
      show bN s n ≤ sm (fun n => mE s (arN s n) (s 5 n) 0) m + mE s (arN s m) (s 5 m) 0
      by_cases e : n = m
      · subst e
        have : bN s n = mE s (arN s n) (s 5 n) 0 := rfl
        omega
      · have := ih (by omega); omega
  exact key _ hn
set_option maxRecDepth 20000 in
theorem uX3_findMend {D : zM} {s : zA} (hX : IX D s) (hs : WF s) : z_Cv mX3_findMend [.ref 0] D (fun E => (∃ o, Opt (mo s) (fun x => x < 50 ∧ x % 5 < s 0 1) o ∧ MX E s (endsN s 0) o) ∧ z_ag 0 MP [10, 11, 12] D E) := by
  have h5 := hs.2.1
  have hnow := endsN_le hs 0
  refine bX3_findMend_0 (sX3_findMend_2 (uX3_ends hX hs (how := 0) (by omega)) (fun r E0 hE0 => ?_))
  obtain ⟨rfl, hfo0⟩ := hE0
  refine bX3_findMend_5 ?_
  generalize hE1 : z_up (z_up (z_up E0 0 10 (-9)) 0 11 (-9)) 0 12 (-9) = E1
  have ag1 : z_ag 0 MP [10, 11, 12] D E1 := by
    rw [← hE1]
    exact (((fO_MP hfo0).fld _ (by decide)).fld _ (by decide)).fld _ (by decide)
  have mx1 : MX E1 s (endsN s 0) none := by
    rw [← hE1]
    exact ⟨by rw [z_up_k (by omega), z_up_k (by omega), z_up_eq], by rw [z_up_k (by omega), z_up_eq], by rw [z_up_eq]⟩
  have names : ∀ (m n : Nat) (o : Option Nat) (o3 o4 o5 : Option Value) (E : zM), n + m = s 0 1 → Opt (mo s) (fun x => x < 50 ∧ x % 5 < n) o → MX E s (endsN s 0) o → z_ag 0 MP [10, 11, 12] D E → z_Ok mX3_findMend 26 [some (.ref 0), some (.int (nI (endsN s 0))), some (.int (nI n)), o3, o4, o5] [] E (z_pv (fun E => (∃ o, Opt (mo s) (fun x => x < 50 ∧ x % 5 < s 0 1) o ∧ MX E s (endsN s 0) o) ∧ z_ag 0 MP [10, 11, 12] D E)) := by
    intro m
    induction m with
    | zero =>
      intro n o o3 o4 o5 E hn hO hMX hag
      have hXE := MP_ix hag hX
      have e1 : (E 0 7 ≤ nI n) = True := by rw [hXE.2.1, nI_leI (by omega) (by omega)]; simp; omega
      apply bX3_findMend_26 <;> simp only [e1, not_true, false_imp_iff, true_imp_iff]
      rw [show n = s 0 1 by omega] at hO
      exact ⟨⟨o, hO, hMX⟩, hag⟩
    | succ m ih =>
      intro n o o3 o4 o5 E hn hO hMX hag
      have hXE := MP_ix hag hX
      have hn1 : n < s 0 1 := by omega
      have e1 : (E 0 7 ≤ nI n) = False := by rw [hXE.2.1, nI_leI (by omega) (by omega)]; simp; omega
      have en0 : (nI n).toNatClampNeg = n := nI_clamp (by omega)
      apply bX3_findMend_26 <;> simp only [e1, en0, hXE.2.2.2.2.2.1 n hn1, not_false_eq_true, false_imp_iff, true_imp_iff]
      · exact vp_in_nI (by omega) (by omega)
      refine sX3_findMend_49 (uX2_draw hXE hs hn1) (fun F hF => bX3_findMend_52 (vp_in_nI (by omega) (by omega)) ?_)
      rw [en0]
      obtain ⟨⟨g1, g2, g3⟩, hGO⟩ := hF
      have agF := hag.trans (GO_MP (by omega) hGO)
      have hXF := MP_ix agF hX
      refine sX3_findMend_62 (uX3_countEndings hXF hs (z_sh40 n (by omega)) (by omega) (hXF.ar hs (by omega)) hn1 (how := 0) (by omega)) (fun r G hG => bX3_findMend_65 (vp_in_nI (by omega) (by omega)) ?_)
      obtain ⟨rfl, hfoG⟩ := hG
      rw [en0]
      have hbase : mE s (arN s n) (s 5 n) 0 = bN s n := rfl
      have hge := endsN_ge hn1
      rw [hbase, pk_sub hge]
      refine z_copy (n0 := 10) (n1 := 10) dX3_findMend_81 kRX3_182 (by decide) (z_sh40 n (by omega)) rfl (by decide) (by decide) (by decide) (by decide) (by decide) rfl ?_
      refine bX3_findMend_84 ?_
      generalize hK : z_row G 45 (va_cpy (G (40 + n)) (G 45) (0 : Int32).toNatClampNeg (0 : Int32).toNatClampNeg (10 : Int32).toNatClampNeg) = K
      have agG := agF.trans (fO_MP hfoG)
      have agK : z_ag 0 MP [10, 11, 12] D K := by rw [← hK]; exact agG.row _ (by decide) (by decide)
      have hXG := MP_ix agG hX
      have k45 : ∀ q, q < 10 → K 45 q = oI (arN s n q) := fun q hq => by
        rw [← hK, z_row_eq, cpy10 _ _ hq]; exact hXG.2.2.2.2.2.2.1 q hq n (by omega)
      have k26 : ∀ q, q < 10 → K (26 + n) q = oI (bst s (farF s (s 5 n)) q) := fun q hq => by
        rw [← hK, z_row_ne (by omega), hfoG (26 + n) (by omega) (by omega) (by omega)]; exact g2 q hq
      have k31 : K 31 n = nI (bm (fun p => (bst s (farF s (s 5 n)) p).isSome) 10) := by
        rw [← hK, z_row_ne (by omega), hfoG 31 (by omega) (by omega) (by omega)]; exact g3
      have mxK : MX K s (endsN s 0) o := hMX.keep (fun k => by
        rw [← hK, z_row_ne (by omega), hfoG 0 (by omega) (by omega) (by omega), hGO.1 0 (by omega) (by omega) (by omega)])
      have places : ∀ (j p : Nat) (o : Option Nat) (o5 : Option Value) (L : zM), p + j = 10 → Opt (mo s) (fun x => x < 50 ∧ (x % 5 < n ∨ (x % 5 = n ∧ x / 5 < p))) o → MX L s (endsN s 0) o → z_ag 0 MP [10, 11, 12] D L → (∀ q, q < 10 → L 45 q = oI (arN s n q)) → (∀ q, q < 10 → L (26 + n) q = oI (bst s (farF s (s 5 n)) q)) → L 31 n = nI (bm (fun p => (bst s (farF s (s 5 n)) p).isSome) 10) → z_Ok mX3_findMend 87 [some (.ref 0), some (.int (nI (endsN s 0))), some (.int (nI n)), some (.int (nI (endsN s 0 - bN s n))), some (.int (nI p)), o5] [] L (z_pv (fun E => (∃ o, Opt (mo s) (fun x => x < 50 ∧ x % 5 < s 0 1) o ∧ MX E s (endsN s 0) o) ∧ z_ag 0 MP [10, 11, 12] D E)) := by
        intro j
        induction j with
        | zero =>
          intro p o o5 L hp hO hMX hag h45 h26 h31
          have e1 : (10 ≤ nI p) = True := by rw [nI10 p (by omega)]; simp; omega
          apply bX3_findMend_87 <;> simp only [e1, not_true, false_imp_iff, true_imp_iff]
          have := ih (n + 1) o (some (.int (nI (endsN s 0 - bN s n)))) (some (.int (nI p))) o5 L (by omega) (hO.same (fun x => ⟨fun q => ⟨q.1, by omega⟩, fun q => ⟨q.1, by omega⟩⟩)) hMX hag
          rw [nI_succ n] at this
          exact this
        | succ j ihj =>
          intro p o o5 L hp hO hMX hag h45 h26 h31
          have hp10 : p < 10 := by omega
          have e1 : (10 ≤ nI p) = False := by rw [nI10 p (by omega)]; simp; omega
          have e0 : (nI p).toNatClampNeg = p := nI_clamp (by omega)
          have hXL := MP_ix hag hX
          have i9 : (oI (aO (s 6 (5 * p + n))) = -9) = (bd s p n = false) := by
            rw [bd_iff hs (show 5 * p + n < 50 by omega)]
            simp [bd]
          have hbml := bm_lt (fun p => (bst s (farF s (s 5 n)) p).isSome) 10
          have iz : zb (nI (bm (fun p => (bst s (farF s (s 5 n)) p).isSome) 10)) (nI p) = ((bst s (fN s n) p).isSome = true) := by
            refine propext ((zb_bit (by omega) hp10).trans ?_)
            rw [bm_bit]
            simp [hp10, fN]
          have ez1 : (5 * p + n) / 5 = p := by omega
          have ez2 : (5 * p + n) % 5 = n := by omega
          have ST : ∀ x, (x < 50 ∧ (x % 5 < n ∨ (x % 5 = n ∧ x / 5 < p + 1))) ↔ ((x < 50 ∧ (x % 5 < n ∨ (x % 5 = n ∧ x / 5 < p))) ∨ x = 5 * p + n) := fun x => by omega
          have ihj' := fun o o5 L => ihj (p + 1) o o5 L (by omega)
          rw [nI_succ p] at ihj'
          have skip : mo s (5 * p + n) = 0 → ∀ (o5 : Option Value) (L : zM), MX L s (endsN s 0) o → z_ag 0 MP [10, 11, 12] D L → (∀ q, q < 10 → L 45 q = oI (arN s n q)) → (∀ q, q < 10 → L (26 + n) q = oI (bst s (farF s (s 5 n)) q)) → L 31 n = nI (bm (fun p => (bst s (farF s (s 5 n)) p).isSome) 10) → z_Ok mX3_findMend 87 [some (.ref 0), some (.int (nI (endsN s 0))), some (.int (nI n)), some (.int (nI (endsN s 0 - bN s n))), some (.int (nI p + 1)), o5] [] L (z_pv (fun E => (∃ o, Opt (mo s) (fun x => x < 50 ∧ x % 5 < s 0 1) o ∧ MX E s (endsN s 0) o) ∧ z_ag 0 MP [10, 11, 12] D E)) := by
            intro hm o5 L a1 a2 a3 a4 a5
            refine ihj' o o5 L (hO.pass ST ?_) a1 a2 a3 a4 a5
            cases o with
            | none => exact hm
            | some y =>
              have := hO.2.1
              show mo s (5 * p + n) < mo s y ∨ _
              omega
          apply bX3_findMend_87 <;> simp only [e1, e0, en0, hXL.2.2.2.2.2.2.1 p hp10 n (by omega), i9, h31, iz, h26 p hp10, not_false_eq_true, false_imp_iff, true_imp_iff]
          · exact vp_in_nI (by omega) (by omega)
          · exact vp_in_nI hp10 (by omega)
          · intro c
            have c' : bd s p n = true := by simpa using c
            exact skip (by unfold mo; rw [if_neg (by rw [ez1, ez2]; simp [moC, c'])]) _ _ hMX hag h45 h26 h31
          · intro c1 c2
            have hC : moC s p n = true := by simp [moC, c1, c2]
            have agT := hag.up (q := 45) p (oI (bst s (farF s (s 5 n)) p)) (by decide) (by decide)
            have hAT : AX (z_up L 45 p (oI (bst s (farF s (s 5 n)) p))) 45 (arP s n p) := ⟨fun q hq => by
              by_cases e : q = p
              · rw [e, z_up_eq]; simp [arP, fN]
              · rw [z_up_k e, h45 q hq]; simp [arP, e], arP_lt hs (by omega)⟩
            refine sX3_findMend_152 (uX3_countEndings (MP_ix agT hX) hs (r := 45) rfl (by omega) hAT hn1 (how := 0) (by omega)) (fun r U hU => ?_)
            obtain ⟨rfl, hfoU⟩ := hU
            have hg : mE s (arP s n p) (s 5 n) 0 = gN s p n := rfl
            rw [hg]
            have hgl := gN_le s p n
            have hbl := bN_le s n
            have emo : mo s (5 * p + n) = gN s p n - bN s n := by unfold mo; rw [ez1, ez2, if_pos ⟨hn1, hC⟩]
            have ic : (nI (endsN s 0 - bN s n) + nI (gN s p n) ≤ nI (endsN s 0)) = (mo s (5 * p + n) = 0) := by
              rw [nI_add, nI_leI (by omega) (by omega), emo]
              exact propext (by omega)
            generalize hW : z_up U 45 p (-9) = W9
            have agW : z_ag 0 MP [10, 11, 12] D W9 := by rw [← hW]; exact (agT.trans (fO_MP hfoU)).up _ _ (by decide) (by decide)
            have w45 : ∀ q, q < 10 → W9 45 q = oI (arN s n q) := fun q hq => by
              by_cases e : q = p
              · rw [← hW, e, z_up_eq]
                have : arN s n p = none := by
                  have := of_decide_eq_false c1
                  have h0 : s 6 (5 * p + n) = 0 := by simpa using this
                  unfold arN
                  rw [h0]
                  rfl
                rw [this]
                rfl
              · rw [← hW, z_up_k e, hfoU 45 (by omega) (by omega) (by omega), z_up_k e]; exact h45 q hq
            have w26 : ∀ q, q < 10 → W9 (26 + n) q = oI (bst s (farF s (s 5 n)) q) := fun q hq => by
              rw [← hW, z_up_ne (by omega), hfoU (26 + n) (by omega) (by omega) (by omega), z_up_ne (by omega)]; exact h26 q hq
            have w31 : W9 31 n = nI (bm (fun p => (bst s (farF s (s 5 n)) p).isSome) 10) := by
              rw [← hW, z_up_ne (by omega), hfoU 31 (by omega) (by omega) (by omega), z_up_ne (by omega)]; exact h31
            have wmx : MX W9 s (endsN s 0) o := hMX.keep (fun k => by
              rw [← hW, z_up_ne (by omega), hfoU 0 (by omega) (by omega) (by omega), z_up_ne (by omega)])
            apply bX3_findMend_155 <;> try simp only [e0, hW, ic]
            · exact vp_in_nI hp10 (by omega)
            · intro w
              exact skip w _ _ wmx agW w45 w26 w31
            · intro w
              have earr : nI (endsN s 0 - bN s n) + nI (gN s p n) = nI (endsN s 0 + mo s (5 * p + n)) := by
                rw [nI_add, emo]
                refine congrArg nI ?_
                omega
              rw [earr]
              refine sX3_findMend_179 (uX3_offerMend hnow hO wmx hp10 (show n < 5 by omega) rfl (by omega) (fun x hx => ⟨by omega, hx.1⟩) ST) (fun Z hZ => bX3_findMend_182 ?_)
              obtain ⟨⟨o', hO', hMX'⟩, agZ⟩ := hZ
              have zne : ∀ q, q ≠ 0 → Z q = W9 q := fun q a => agZ.1 q a (by simp)
              exact ihj' o' _ Z hO' hMX' (agW.trans (agZ.mono (by decide) (by decide))) (fun q hq => by rw [zne 45 (by omega)]; exact w45 q hq) (fun q hq => by rw [zne (26 + n) (by omega)]; exact w26 q hq) (by rw [zne 31 (by omega)]; exact w31)
          · intro c1 c2
            have c2' : (bst s (fN s n) p).isSome = false := by simpa using c2
            exact skip (by unfold mo; rw [if_neg (by rw [ez1, ez2]; simp [moC, c2'])]) _ _ hMX hag h45 h26 h31
      exact places 10 0 o o5 K (by omega) (hO.same (fun x => by omega)) mxK agK k45 k26 k31
  exact names (s 0 1) 0 none none none none E1 (by omega) (fun x hx => by have := hx.2; omega) mx1 ag1
