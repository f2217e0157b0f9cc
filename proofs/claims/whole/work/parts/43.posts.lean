/-! posts -/
theorem SEL_po {s : zA} (hs : WF s) : SEL (fun c => decide (c < 1024) && PL s 0 (s 0 1) c) (bm (KU s 0 (s 0 1)) 10) := by
  have hK := bm_lt (KU s 0 (s 0 1)) 10
  refine ⟨hK, fun c hc => ?_⟩
  rw [Bool.and_eq_true, decide_eq_true_eq] at hc
  obtain ⟨hc1, hc2⟩ := hc
  have hc3 := PL_iff.mp hc2
  constructor
  · rw [Bool.and_eq_true, decide_eq_true_eq]
    refine ⟨hK, PL_iff.mpr (fun i hi => ?_)⟩
    have hhm := hs.2.2.2.2.2.1 (0 + i) (by omega)
    obtain ⟨hA, -⟩ := (LD_iff hs hhm).mp (hc3 i hi)
    refine (LD_iff hs hhm).mpr ⟨hA, fun x hx => ?_⟩
    obtain ⟨x1, x2⟩ := CH_best hx
    rw [Nat.testBit_and, HB_bit x1, bm_bit, show hb s (0 + i) x = true from x2, show KU s 0 (s 0 1) x = true from KU_iff.mpr ⟨i, hi, hx⟩]
    simp [x1]
  · intro x hx
    rw [bm_bit, Bool.and_eq_true] at hx
    obtain ⟨i, hi, h2⟩ := KU_iff.mp hx.2
    have hhm := hs.2.2.2.2.2.1 (0 + i) (by omega)
    obtain ⟨-, hC⟩ := (LD_iff hs hhm).mp (hc3 i hi)
    have := hC x h2
    rw [Nat.testBit_and, Bool.and_eq_true] at this
    exact this.1
def PQ : List Nat := [53, 54, 55, 56, 58]
set_option maxRecDepth 20000 in
theorem uX4_posts {D : zM} {s : zA} (hI : IM D s) (hs : WF s) : z_Ci mX4_posts [.ref 46] D (fun r E => r = oI (lsO s 0 (s 0 1)) ∧ z_ag 46 PQ [13, 14, 15] D E) := by
  have h5 := hs.2.1
  have hS := SEL_po hs
  have hKl := bm_lt (KU s 0 (s 0 1)) 10
  generalize hL : (fun c => decide (c < 1024) && PL s 0 (s 0 1) c) = L at hS
  have hfin : selO L (bm (KU s 0 (s 0 1)) 10) 1024 = lsO s 0 (s 0 1) := by
    unfold selO lsO
    rw [← hL]
    have hKl' : bm (KU s 0 (s 0 1)) 10 < 1024 := hKl
    simp [hKl']
  rw [← hfin]
  generalize hKe : bm (KU s 0 (s 0 1)) 10 = K at hS hKl
  refine bX4_posts_0 ?_
  have im : ∀ {E : zM}, z_ag 46 PQ [13, 14, 15] D E → IM E s := fun hag => hI.ag hag (by decide) (by decide)
  have three : ∀ (m c : Nat) (o3 : Option Value) (F : zM), c + m = 1024 → (∀ i, i < 1024 → F 58 i = bI (PL s 0 (s 0 1) i)) → z_ag 46 PQ [13, 14, 15] D F → z_Ok mX4_posts 95 [some (.ref 46), some (.int (oI (selO L K c))), some (.int (nI c)), o3] [] F (z_pi (fun r E => r = oI (selO L K 1024) ∧ z_ag 46 PQ [13, 14, 15] D E)) := by
    intro m
    induction m with
    | zero =>
      intro c o3 F hc h58 hag
      have e1 : (1024 ≤ nI c) = True := by rw [n1024 c (by omega)]; simp; omega
      apply bX4_posts_95 <;> simp only [e1, not_true, false_imp_iff, true_imp_iff]
      exact ⟨by rw [show c = 1024 by omega], hag⟩
    | succ m ih =>
      intro c o3 F hc h58 hag
      have hc4 : c < 1024 := by omega
      have e1 : (1024 ≤ nI c) = False := by rw [n1024 c (by omega)]; simp; omega
      have e0 : (nI c).toNatClampNeg = c := nI_clamp (by omega)
      have ih' := ih (c + 1) o3 F (by omega) h58 hag
      rw [nI_succ c] at ih'
      have eL : L c = PL s 0 (s 0 1) c := by rw [← hL]; simp [hc4]
      have i58 : (F 58 c = 0) = (L c = false) := by rw [h58 c hc4, eL]; exact propext (bI_0 _)
      apply bX4_posts_95 <;> simp only [e1, e0, i58, selO_9 hS, not_false_eq_true, false_imp_iff, true_imp_iff]
      · exact vp_in_nI hc4 (by omega)
      · intro w
        rw [SEL.no w] at ih'
        exact ih'
      · intro w1 w2
        rw [SEL.take hS (by simpa using w1) w2] at ih'
        exact ih'
      · intro w1 w2
        cases hb : selO L K c with
        | none => exact absurd hb w2
        | some b =>
          have hbK := selO_lt hS hb
          have hLc : L c = true := by simpa using w1
          obtain ⟨p1, -, p2, p3⟩ := SEL.pass hS hLc hb
          refine sX4_posts_118 (uX4_manyOf hc4) (fun r G hG => ?_)
          obtain ⟨rfl, rfl⟩ := hG
          refine bX4_posts_121 ?_
          refine sX4_posts_122 (v0 := nI b) (uX4_manyOf (by omega)) (fun r G hG => ?_)
          obtain ⟨rfl, rfl⟩ := hG
          have c1 := ct_le c.testBit 10
          have c2 := ct_le b.testBit 10
          have il : (nI (ct b.testBit 10) ≤ nI (ct c.testBit 10)) = (ct b.testBit 10 ≤ ct c.testBit 10) := propext (nI_leI (by omega) (by omega))
          apply bX4_posts_125 <;> simp only [il]
          · intro z
            rw [p3] at ih'
            exact ih'
          · intro z
            rw [p1] at z
            exact absurd p2 z
  have two : ∀ (m n : Nat) (o2 o3 : Option Value) (F : zM), n + m = s 0 1 → (∀ i, i < 1024 → F 58 i = bI (PL s 0 n i)) → z_ag 46 PQ [13, 14, 15] D F → z_Ok mX4_posts 24 [some (.ref 46), some (.int (nI n)), o2, o3] [] F (z_pi (fun r E => r = oI (selO L K 1024) ∧ z_ag 46 PQ [13, 14, 15] D E)) := by
    intro m
    induction m with
    | zero =>
      intro n o2 o3 F hn h58 hag
      have e1 : (F 46 5 ≤ nI n) = True := by rw [(im hag).2.1, nI_leI (by omega) (by omega)]; simp; omega
      apply bX4_posts_24 <;> simp only [e1, not_true, false_imp_iff, true_imp_iff]
      rw [show n = s 0 1 by omega] at h58
      have := three 1024 0 o3 F (by omega) h58 hag
      rw [show selO L K 0 = none from if_neg (fun q => by omega)] at this
      exact this
    | succ m ih =>
      intro n o2 o3 F hn h58 hag
      have hn1 : n < s 0 1 := by omega
      have e1 : (F 46 5 ≤ nI n) = False := by rw [(im hag).2.1, nI_leI (by omega) (by omega)]; simp; omega
      apply bX4_posts_24 <;> simp only [e1, not_false_eq_true, false_imp_iff, true_imp_iff]
      refine sX4_posts_34 (uX4_haveBest (im hag) hs hn1) (fun r E hE => bX4_posts_37 ?_)
      obtain ⟨rfl, hFA, hagE⟩ := hE
      have hag2 := hag.trans (hagE.mono (ps' := PQ) (ks' := [13, 14, 15]) (by decide) (by decide))
      have h58E : ∀ i, i < 1024 → E 58 i = bI (PL s 0 n i) := fun i hi => by rw [hagE.1 58 (by omega) (by decide)]; exact h58 i hi
      have inner : ∀ (j c : Nat) (G : zM), c + j = 1024 → (∀ i, i < c → G 58 i = bI (PL s 0 (n + 1) i)) → (∀ i, c ≤ i → i < 1024 → G 58 i = bI (PL s 0 n i)) → FA G (fN s n) → z_ag 46 PQ [13, 14, 15] D G → z_Ok mX4_posts 40 [some (.ref 46), some (.int (nI n)), some (.int (nI (HB s n))), some (.int (nI c))] [] G (z_pi (fun r E => r = oI (selO L K 1024) ∧ z_ag 46 PQ [13, 14, 15] D E)) := by
        intro j
        induction j with
        | zero =>
          intro c G hc ha hb hF hag
          have e1 : (1024 ≤ nI c) = True := by rw [n1024 c (by omega)]; simp; omega
          apply bX4_posts_40 <;> simp only [e1, not_true, false_imp_iff, true_imp_iff]
          have := ih (n + 1) (some (.int (nI (HB s n)))) (some (.int (nI c))) G (by omega) (fun i hi => ha i (by omega)) hag
          rw [nI_succ n] at this
          exact this
        | succ j ihj =>
          intro c G hc ha hb hF hag
          have hc4 : c < 1024 := by omega
          have e1 : (1024 ≤ nI c) = False := by rw [n1024 c (by omega)]; simp; omega
          have e0 : (nI c).toNatClampNeg = c := nI_clamp (by omega)
          have ih' := fun G => ihj (c + 1) G (by omega)
          rw [nI_succ c] at ih'
          have i58 : (G 58 c = 0) = (PL s 0 n c = false) := by rw [hb c (by omega) hc4]; exact propext (bI_0 _)
          have eP : PL s 0 (n + 1) c = (PL s 0 n c && LD s n (c &&& HB s n)) := by
            show (PL s 0 n c && LD s (0 + n) (c &&& HB s (0 + n))) = _
            rw [Nat.zero_add]
          have upd : ∀ (G : zM) (v : Int32), (∀ i, i < c → G 58 i = bI (PL s 0 (n + 1) i)) → (∀ i, c ≤ i → i < 1024 → G 58 i = bI (PL s 0 n i)) → v = bI (PL s 0 (n + 1) c) → FA G (fN s n) → z_ag 46 PQ [13, 14, 15] D G → z_Ok mX4_posts 40 [some (.ref 46), some (.int (nI n)), some (.int (nI (HB s n))), some (.int (nI c + 1))] [] (z_up G 58 c v) (z_pi (fun r E => r = oI (selO L K 1024) ∧ z_ag 46 PQ [13, 14, 15] D E)) := by
            intro G v ha hb hv hF hag
            refine ih' _ (fun i hi => ?_) (fun i h1 h2 => ?_) (fun q hq => ?_) (hag.up _ _ (by decide) (by decide))
            · by_cases e : i = c
              · rw [e, z_up_eq]; exact hv
              · rw [z_up_k e]; exact ha i (by omega)
            · rw [z_up_k (by omega)]; exact hb i (by omega) h2
            · rw [z_up_ne (by omega)]; exact hF q hq
          apply bX4_posts_40 <;> simp only [e1, e0, i58, nb_and, not_false_eq_true, false_imp_iff, true_imp_iff]
          · exact vp_in_nI hc4 (by omega)
          · intro w
            exact upd G 0 ha hb (by rw [eP, w, Bool.false_and]; rfl) hF hag
          · intro w
            have w' : PL s 0 n c = true := by simpa using w
            refine sX4_posts_66 (uX4_doLead (im hag) hs hn1 (and_1024 (HB_lt s n)) hF) (fun r M hM => ?_)
            obtain ⟨rfl, hagM⟩ := hM
            have e58 : M 58 = G 58 := hagM.1 58 (by omega) (by decide)
            have hFM : FA M (fN s n) := fun q hq => by rw [hagM.1 53 (by omega) (by decide)]; exact hF q hq
            have hagM' := hag.trans (hagM.mono (ps' := PQ) (ks' := [13, 14, 15]) (by decide) (by decide))
            apply bX4_posts_69 <;> try simp only [bI_0, e0]
            · exact fun _ => vp_in_nI hc4 (by omega)
            · exact fun _ => vp_in_nI hc4 (by omega)
            · intro z
              exact upd M 0 (fun i hi => by rw [e58]; exact ha i hi) (fun i h1 h2 => by rw [e58]; exact hb i h1 h2) (by rw [eP, z, Bool.and_false]; rfl) hFM hagM'
            · intro z
              exact upd M 1 (fun i hi => by rw [e58]; exact ha i hi) (fun i h1 h2 => by rw [e58]; exact hb i h1 h2) (by rw [eP, w', show LD s n (c &&& HB s n) = true by simpa using z]; rfl) hFM hagM'
      exact inner 1024 0 E (by omega) (fun i hi => by omega) (fun i _ hi => h58E i hi) hFA hag2
  have one : ∀ (m x : Nat) (F : zM), x + m = 1024 → (∀ i, i < x → F 58 i = 1) → z_ag 46 PQ [13, 14, 15] D F → z_Ok mX4_posts 2 [some (.ref 46), some (.int (nI x)), none, none] [] F (z_pi (fun r E => r = oI (selO L K 1024) ∧ z_ag 46 PQ [13, 14, 15] D E)) := by
    intro m
    induction m with
    | zero =>
      intro x F hx h58 hag
      have e1 : (1024 ≤ nI x) = True := by rw [n1024 x (by omega)]; simp; omega
      apply bX4_posts_2 <;> simp only [e1, not_true, false_imp_iff, true_imp_iff]
      exact two (s 0 1) 0 none none F (by omega) (fun i hi => by rw [h58 i (by omega)]; rfl) hag
    | succ m ih =>
      intro x F hx h58 hag
      have e1 : (1024 ≤ nI x) = False := by rw [n1024 x (by omega)]; simp; omega
      have e0 : (nI x).toNatClampNeg = x := nI_clamp (by omega)
      have ih' := fun G => ih (x + 1) G (by omega)
      rw [nI_succ x] at ih'
      apply bX4_posts_2 <;> simp only [e1, e0, not_false_eq_true, false_imp_iff, true_imp_iff]
      · exact vp_in_nI (by omega) (by omega)
      · refine ih' _ (fun i hi => ?_) (hag.up _ _ (by decide) (by decide))
        by_cases e : i = x
        · rw [e, z_up_eq]
        · rw [z_up_k e]; exact h58 i (by omega)
  exact one 1024 0 D (by omega) (fun i hi => by omega) z_ag.rfl
theorem J_posts {D : zM} {s : zA} (h : zI D s) : z_Ci mX3_posts [.ref 0] D (zJ mX4_posts [.ref 46]) := by
  obtain ⟨hs, hM, hX⟩ := id h
  refine bX3_posts_0 ?_
  rw [hX.2.1]
  have hl := uX3_leastSet hX hs (a := 0) (j := s 0 1) (by omega)
  rw [Nat.zero_add] at hl
  refine sX3_posts_6 hl (fun r E hE => bX3_posts_9 ?_)
  obtain ⟨rfl, hag⟩ := hE
  exact z_weakI (uX4_posts (zI.M hM hag (by decide)) hs) (fun r F hF => ⟨hF.1, s, h.after hag hF.2 (by decide) (by decide) (by decide) (by decide)⟩)
