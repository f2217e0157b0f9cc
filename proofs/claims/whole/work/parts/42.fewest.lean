/-! fewest, posts: sets tried one after another find just the choices -/
theorem bits_le {a b : Nat} (h : ∀ x, a.testBit x = true → b.testBit x = true) : a ≤ b := by
  have : a ||| b = b := by
    apply Nat.eq_of_testBit_eq
    intro i
    rw [Nat.testBit_or]
    cases hi : a.testBit i with
    | false => rfl
    | true => rw [h i hi]; rfl
  rw [← this]
  exact Nat.left_le_or
theorem ct_mono {f g : Nat → Bool} : ∀ {n : Nat}, (∀ i, i < n → f i = true → g i = true) → ct f n ≤ ct g n
  | 0, _ => Nat.le_refl 0
  | n + 1, h => by
    have ih := ct_mono (f := f) (g := g) (n := n) (fun i hi => h i (by omega))
    show ct f n + (if f n then 1 else 0) ≤ ct g n + (if g n then 1 else 0)
    cases hf : f n with
    | false => simp; split <;> omega
    | true => rw [h n (by omega) hf]; omega
/-- what stands behind the first c sets, where K is in every one that leads -/
def selO (L : Nat → Bool) (K c : Nat) : Option Nat := if L K = true ∧ K < c then some K else none
def SEL (L : Nat → Bool) (K : Nat) : Prop := K < 1024 ∧ ∀ c, L c = true → L K = true ∧ ∀ x, K.testBit x = true → c.testBit x = true
theorem SEL.no {L : Nat → Bool} {K c : Nat} (h : L c = false) : selO L K (c + 1) = selO L K c := by
  unfold selO
  by_cases hK : L K = true
  · have : K ≠ c := fun e => by rw [e, h] at hK; cases hK
    have e : (K < c + 1) = (K < c) := propext (by omega)
    simp only [e]
  · rw [if_neg (fun q => hK q.1), if_neg (fun q => hK q.1)]
theorem SEL.take {L : Nat → Bool} {K c : Nat} (hS : SEL L K) (h : L c = true) (hn : selO L K c = none) : selO L K (c + 1) = some c := by
  obtain ⟨h1, h2⟩ := hS.2 c h
  have h3 := bits_le h2
  unfold selO at hn ⊢
  have : ¬ K < c := fun q => by rw [if_pos ⟨h1, q⟩] at hn; cases hn
  have e : K = c := by omega
  rw [if_pos ⟨h1, by omega⟩, e]
theorem SEL.pass {L : Nat → Bool} {K c b : Nat} (hS : SEL L K) (h : L c = true) (hn : selO L K c = some b) : b = K ∧ K < c ∧ ct K.testBit 10 ≤ ct c.testBit 10 ∧ selO L K (c + 1) = some b := by
  obtain ⟨h1, h2⟩ := hS.2 c h
  unfold selO at hn ⊢
  by_cases q : L K = true ∧ K < c
  · rw [if_pos q] at hn
    cases hn
    exact ⟨rfl, q.2, ct_mono (fun i _ hi => h2 i hi), by rw [if_pos ⟨q.1, by omega⟩]⟩
  · rw [if_neg q] at hn; cases hn
theorem selO_lt {L : Nat → Bool} {K c b : Nat} (hS : SEL L K) (h : selO L K c = some b) : b = K := by
  unfold selO at h
  split at h
  · cases h; rfl
  · cases h
theorem n1024 (k : Nat) (hk : k ≤ 1024) : (1024 ≤ nI k) = (k = 1024) := by rw [show (1024 : Int32) = nI 1024 from rfl]; exact propext ((nI_leI (by omega) (by omega)).trans (by omega))
theorem selO_9 {L : Nat → Bool} {K c : Nat} (hS : SEL L K) : (oI (selO L K c) = -9) = (selO L K c = none) := by
  cases h : selO L K c with
  | none => simp [oI]
  | some b =>
    have := selO_lt hS h
    have := hS.1
    simp only [oI, reduceCtorEq, eq_iff_iff, iff_false]
    exact nI_ne9 (by omega)
def fwL (s : zA) (n c : Nat) : Bool := sub s n c && LD s n c
theorem KU_best {s : zA} {a j x : Nat} (h : KU s a j x = true) : x < 10 := by
  obtain ⟨i, -, h2⟩ := KU_iff.mp h
  exact (CH_best h2).1
theorem SEL_fw {s : zA} (hs : WF s) {n : Nat} (hn : n < s 0 1) : SEL (fun c => decide (c < 1024) && fwL s n c) (bm (CH s n) 10) := by
  have hhm := hs.2.2.2.2.2.1 n hn
  have hK := bm_lt (CH s n) 10
  refine ⟨hK, fun c hc => ?_⟩
  rw [Bool.and_eq_true, decide_eq_true_eq] at hc
  obtain ⟨hc1, hc2⟩ := hc
  unfold fwL at hc2
  rw [Bool.and_eq_true] at hc2
  obtain ⟨h1, h2⟩ := hc2
  obtain ⟨hA, hC⟩ := (LD_iff hs hhm).mp h2
  constructor
  · rw [Bool.and_eq_true, decide_eq_true_eq]
    refine ⟨hK, ?_⟩
    unfold fwL
    rw [Bool.and_eq_true, sub_iff hK]
    refine ⟨fun q hq => ?_, (LD_iff hs hhm).mpr ⟨hA, fun x hx => ?_⟩⟩
    · rw [bm_bit, Bool.and_eq_true] at hq
      exact (CH_best hq.2).2
    · rw [bm_bit, hx]
      simp [(CH_best hx).1]
  · intro x hx
    rw [bm_bit, Bool.and_eq_true] at hx
    exact hC x hx.2
set_option maxRecDepth 20000 in
theorem uX4_fewestL {D : zM} {s : zA} (hI : IM D s) (hs : WF s) {n : Nat} (hn : n < s 0 1) : z_Ok mX4_fewest 12 [some (.ref 46), some (.int (nI n)), none, none, none, none] [.int (nI n), .ref 46] D (z_pi (fun r E => r = oI (if fwL s n (bm (CH s n) 10) = true then some (bm (CH s n) 10) else none) ∧ z_ag 46 [53, 54, 55, 56] [13, 14, 15] D E)) := by
  have hS := SEL_fw hs hn
  generalize hL : (fun c => decide (c < 1024) && fwL s n c) = L at hS
  have hKl := bm_lt (CH s n) 10
  have hfin : selO L (bm (CH s n) 10) 1024 = if fwL s n (bm (CH s n) 10) = true then some (bm (CH s n) 10) else none := by
    unfold selO
    rw [← hL]
    have hKl' : bm (CH s n) 10 < 1024 := hKl
    simp [hKl']
  rw [← hfin]
  generalize hKe : bm (CH s n) 10 = K at hS hKl
  refine sX4_fewest_12 (uX4_haveBest hI hs hn) (fun r E hE => ?_)
  obtain ⟨rfl, hF, hag⟩ := hE
  have hag' := hag.mono (ps' := [53, 54, 55, 56]) (ks' := [13, 14, 15]) (by decide) (by decide)
  refine bX4_fewest_15 ?_
  have loop : ∀ (m c : Nat) (o5 : Option Value) (F : zM), c + m = 1024 → z_ag 46 [54, 55, 56] [13, 14, 15] E F → z_Ok mX4_fewest 22 [some (.ref 46), some (.int (nI n)), some (.int (nI (HB s n))), some (.int (oI (selO L K c))), some (.int (nI c)), o5] [] F (z_pi (fun r E => r = oI (selO L K 1024) ∧ z_ag 46 [53, 54, 55, 56] [13, 14, 15] D E)) := by
    intro m
    induction m with
    | zero =>
      intro c o5 F hc hagF
      have e1 : (1024 ≤ nI c) = True := by rw [n1024 c (by omega)]; simp; omega
      apply bX4_fewest_22 <;> simp only [e1, not_true, false_imp_iff, true_imp_iff]
      exact ⟨by rw [show c = 1024 by omega], hag'.trans (hagF.mono (by decide) (by decide))⟩
    | succ m ih =>
      intro c o5 F hc hagF
      have hc4 : c < 1024 := by omega
      have e1 : (1024 ≤ nI c) = False := by rw [n1024 c (by omega)]; simp; omega
      have hIF := hI.ag (hag'.trans (hagF.mono (by decide) (by decide))) (by decide) (by decide)
      have hFF : FA F (fN s n) := fun q hq => by rw [hagF.1 53 (by omega) (by decide)]; exact hF q hq
      have ih' := fun o5 F => ih (c + 1) o5 F (by omega)
      rw [nI_succ c] at ih'
      have eL : L c = (sub s n c && LD s n c) := by rw [← hL]; simp [hc4, fwL]
      have keep : L c = false → ∀ (o5 : Option Value) (F : zM), z_ag 46 [54, 55, 56] [13, 14, 15] E F → z_Ok mX4_fewest 22 [some (.ref 46), some (.int (nI n)), some (.int (nI (HB s n))), some (.int (oI (selO L K c))), some (.int (nI c + 1)), o5] [] F (z_pi (fun r E => r = oI (selO L K 1024) ∧ z_ag 46 [53, 54, 55, 56] [13, 14, 15] D E)) := fun h o5 F hF => by
        have := ih' o5 F hF
        rw [SEL.no h] at this
        exact this
      apply bX4_fewest_22 <;> simp only [e1, sub_I hc4, selO_9 hS, not_false_eq_true, false_imp_iff, true_imp_iff]
      · intro w
        exact keep (by rw [eL, show sub s n c = false by simpa using w, Bool.false_and]) _ _ hagF
      · intro w1 w2
        refine sX4_fewest_73 (uX4_doLead hIF hs hn hc4 hFF) (fun r G hG => ?_)
        obtain ⟨rfl, hagG⟩ := hG
        apply bX4_fewest_76 <;> simp only [bI_0]
        · intro z
          exact keep (by rw [eL, z, Bool.and_false]) _ _ (hagF.trans hagG)
        · intro z
          have := ih' (some (.int 1)) G (hagF.trans hagG)
          rw [SEL.take hS (by rw [eL, w1]; simpa using z) w2] at this
          exact this
      · intro w1 w2
        cases hb : selO L K c with
        | none => exact absurd hb w2
        | some b =>
          have hbK := selO_lt hS hb
          refine sX4_fewest_47 (uX4_manyOf hc4) (fun r G hG => ?_)
          obtain ⟨rfl, rfl⟩ := hG
          refine bX4_fewest_50 ?_
          refine sX4_fewest_51 (v0 := nI b) (uX4_manyOf (by omega)) (fun r G hG => ?_)
          obtain ⟨rfl, rfl⟩ := hG
          have c1 := ct_le c.testBit 10
          have c2 := ct_le b.testBit 10
          have il : (nI (ct b.testBit 10) ≤ nI (ct c.testBit 10)) = (ct b.testBit 10 ≤ ct c.testBit 10) := propext (nI_leI (by omega) (by omega))
          have stay : selO L K (c + 1) = some b → ∀ (o5 : Option Value) (F : zM), z_ag 46 [54, 55, 56] [13, 14, 15] E F → z_Ok mX4_fewest 22 [some (.ref 46), some (.int (nI n)), some (.int (nI (HB s n))), some (.int (oI (some b))), some (.int (nI c + 1)), o5] [] F (z_pi (fun r E => r = oI (selO L K 1024) ∧ z_ag 46 [53, 54, 55, 56] [13, 14, 15] D E)) := fun h o5 F hF => by
            have := ih' o5 F hF
            rw [h] at this
            exact this
          apply bX4_fewest_54 <;> simp only [il]
          · intro z
            refine stay ?_ _ _ hagF
            cases hLc : L c with
            | false => rw [SEL.no hLc]; exact hb
            | true => exact (SEL.pass hS hLc hb).2.2.2
          · intro z
            have hLc : L c = false := by
              cases hLc : L c with
              | false => rfl
              | true =>
                obtain ⟨p1, -, p2, -⟩ := SEL.pass hS hLc hb
                rw [p1] at z
                exact absurd p2 z
            refine sX4_fewest_73 (uX4_doLead hIF hs hn hc4 hFF) (fun r G2 hG => ?_)
            obtain ⟨rfl, hagG⟩ := hG
            have hLD : LD s n c = false := by
              rw [eL, w1, Bool.true_and] at hLc
              exact hLc
            rw [hLD]
            exact bX4_fewest_76 (fun _ => stay (by rw [SEL.no hLc]; exact hb) _ _ (hagF.trans hagG)) (fun q => absurd rfl q)
  have := loop 1024 0 none E (by omega) z_ag.rfl
  rw [show selO L K 0 = none from if_neg (fun q => by omega)] at this
  exact this
theorem KU_1 (s : zA) (n : Nat) : KU s n 1 = CH s n := funext (fun x => by
  show (false || CH s (n + 0) x) = _
  rw [Bool.false_or]
  rfl)
theorem CH_and (s : zA) (n : Nat) : bm (CH s n) 10 &&& HB s n = bm (CH s n) 10 := by
  apply Nat.eq_of_testBit_eq
  intro i
  rw [Nat.testBit_and, bm_bit]
  cases hi : (decide (i < 10) && CH s n i) with
  | false => rfl
  | true =>
    rw [Bool.and_eq_true, decide_eq_true_eq] at hi
    rw [HB_bit hi.1, show hb s n i = true from (CH_best hi.2).2]
    rfl
theorem lsO_1 (s : zA) (n : Nat) : lsO s n 1 = if fwL s n (bm (CH s n) 10) = true then some (bm (CH s n) 10) else none := by
  have e : PL s n 1 (bm (CH s n) 10) = fwL s n (bm (CH s n) 10) := by
    show (true && LD s (n + 0) (bm (CH s n) 10 &&& HB s (n + 0))) = _
    rw [Bool.true_and, Nat.add_zero, CH_and]
    unfold fwL
    have := sub_and (s := s) (n := n) (c := bm (CH s n) 10)
    rw [CH_and] at this
    rw [this, Bool.true_and]
  unfold lsO
  rw [KU_1, e]
set_option maxRecDepth 20000 in
theorem J_fewest {D : zM} {s : zA} (h : zI D s) (x : Int32) : z_Ci mX3_fewest [.ref 0, .int x] D (zJ mX4_fewest [.ref 46, .int x]) := by
  obtain ⟨hs, hM, hX⟩ := id h
  have h5 := hs.2.1
  have cX : z_nm x (D 0 7) ↔ vp_in x (s 0 1) := by rw [hX.2.1]; exact z_nm_in (by omega)
  have cM : z_wi x 0 (D 46 5 - 1) ↔ vp_in x (s 0 1) := by rw [hM.2.1]; exact z_wi_in (by omega)
  refine bX3_fewest_0 (fun b => ?_) (fun b => bX4_fewest_0 (fun q => absurd (cX.mpr (cM.mp q)) b) (fun _ => ⟨rfl, s, h⟩))
  have b' := cX.mp b
  obtain ⟨n, hn, rfl, hn2⟩ := z_inN b'
  rw [← nI_succ n]
  refine sX3_fewest_15 (uX3_leastSet hX hs (a := n) (j := 1) (by omega)) (fun r E hE => bX3_fewest_18 ?_)
  obtain ⟨rfl, hag⟩ := hE
  have hME := zI.M hM hag (by decide)
  have cM2 : z_wi (nI n) 0 (E 46 5 - 1) := by rw [hME.2.1]; exact (z_wi_in (by omega)).mpr b'
  refine bX4_fewest_0 (fun _ => ?_) (fun q => absurd cM2 q)
  refine z_weak (uX4_fewestL hME hs hn) (fun o F hF => ?_)
  cases o with
  | none => exact hF.elim
  | some r =>
    refine ⟨?_, s, h.after hag hF.2 (by decide) (by decide) (by decide) (by decide)⟩
    rw [lsO_1]
    exact hF.1
