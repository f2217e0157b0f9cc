/-! follow -/
def FXr (f : Nat) (E : zM) (r : Nat × List Nat × Nat) (p : Nat) : Prop := E f 4 = nI r.1 ∧ E f 2 = nI r.2.1.length ∧ E f 3 = nI r.2.2 ∧ ∀ i, i ≤ r.2.1.length → E (f + 1) i = nI ((p :: r.2.1).getD i 0)
set_option maxRecDepth 20000 in
theorem uX1_go {D : zM} {s : zA} (hX : IX D s) (hs : WF s) {f : Nat} (hf : f = 32 ∨ f = 35) {r : Nat} (hr : z_sh[r]? = some (.inr (.inl (0, 10)))) (hrf : r < 32 ∨ 38 ≤ r) {ar : Nat → Option Nat} (hA : AX D r ar) {h p : Nat} (hh : h < 10) (hp : p < 10) :
    z_Cv mX1_go [.ref f, .ref 1, .int (nI p), .int (nI h), .ref r] D (fun E => FXr f E (folR s ar h p) p ∧ fO f D E) := by
  obtain ⟨hf0, hf1, hf2⟩ := fsh hf
  refine bX1_go_0 hf0 hf1 hf2 hr (sX1_go_5 (uJ7_fill hf2 (by omega)) (fun E0 hE0 => ?_))
  obtain ⟨hz, ho⟩ := hE0
  refine bX1_go_8 hf0 hf1 hf2 hr (vp_in_nI (n := 0) (by omega) (by omega)) ?_
  rw [show (0 : Int32).toNatClampNeg = 0 from rfl]
  generalize hF : z_up (z_up (z_up (z_up E0 (f + 1) 0 (nI p)) f 2 0) f 3 0) f 4 4 = F
  have fo0 : fO f D E0 := fun q a b c => ho q c
  have fof : fO f D F := by
    rw [← hF]
    exact (((fo0.up _ _ (by omega)).up _ _ (by omega)).up _ _ (by omega)).up _ _ (by omega)
  have hXF := fof.ix hf hX
  have hAF : AX F r ar := ⟨fun t ht => by rw [fof r (by omega) (by omega) (by omega)]; exact hA.1 t ht, hA.2⟩
  have hCF : CM F f (fun _ _ => false) := fun q hq => by
    rw [← hF, z_up_ne (by omega), z_up_ne (by omega), z_up_ne (by omega), z_up_ne (by omega), hz q hq]
    refine (congrArg nI (?_ : 0 = _))
    symm
    rw [bm_none]
    exact z_fst_no (fun _ _ _ => rfl)
  have := uX1_go_loop hs hf hr hrf (ar := ar) hh (x2 := nI p) 29 0 0 p none (fun _ _ => false) none F hXF hAF (by rw [← hF, z_up_eq]) (by rw [← hF, z_up_k (by omega), z_up_k (by omega), z_up_eq]; rfl) (by rw [← hF, z_up_k (by omega), z_up_eq]; rfl) hCF (fun q hq => by cases hq) (by omega) hp (by rw [← hF, z_up_ne (by omega), z_up_ne (by omega), z_up_ne (by omega), z_up_eq])
  refine z_weak this (fun o E hE => ?_)
  cases o with
  | some _ => exact hE.elim
  | none =>
    obtain ⟨⟨b1, b2, b3, b4, b5⟩, b6⟩ := hE
    rw [Nat.zero_add] at b2 b3
    exact ⟨⟨b1, b2, b3, fun i hi => by have := b5 i hi; rw [Nat.zero_add] at this; exact this⟩, fof.trans b6⟩
theorem uX1_placeAt {E : zM} {f : Nat} (hf : f = 32 ∨ f = 35) {r : Nat × List Nat × Nat} {p : Nat} (hF : FXr f E r p) (hl : r.2.1.length ≤ 29) {x : Int32} (hx : ¬ x < 0) : z_Ci mX1_placeAt [.ref f, .int x] E (z_va (if x ≤ nI r.2.1.length then nI ((p :: r.2.1).getD x.toNatClampNeg 0) else -9) E) := by
  obtain ⟨hf0, hf1, hf2⟩ := fsh hf
  obtain ⟨j, hj, rfl⟩ := nI_of hx
  have ej : (nI j).toNatClampNeg = j := nI_clamp hj
  have i1 : nI r.2.1.length < nI j ↔ r.2.1.length < j := nI_ltI (by omega) hj
  have i2 : nI j ≤ nI r.2.1.length ↔ j ≤ r.2.1.length := nI_leI hj (by omega)
  refine bX1_placeAt_0 hf0 hf1 hf2 (fun _ z => ?_) (fun z => absurd z hx) (fun _ z => ?_) (fun _ z => ?_)
  · rw [hF.2.1, i1] at z
    exact vp_in_nI (by omega) (by omega)
  · rw [hF.2.1, i1] at z
    exact ⟨rfl, by rw [if_neg (fun w => by have := i2.mp w; omega)]⟩
  · rw [hF.2.1, i1] at z
    exact ⟨rfl, by rw [if_pos (i2.mpr (by omega)), ej, hF.2.2.2 j (by omega)]⟩
theorem IX.ar {D : zM} {s : zA} (hX : IX D s) (hs : WF s) {n : Nat} (hn : n < 5) : AX D (40 + n) (arN s n) := ⟨fun p hp => hX.2.2.2.2.2.2.1 p hp n hn, arN_lt hs hn⟩
def FP : List Nat := [32, 33, 34, 35, 36, 37]
theorem fO.ag {f : Nat} {D E : zM} (hf : f = 32 ∨ f = 35) (h : fO f D E) : z_ag 0 FP [] D E := ⟨fun q _ h2 => h q (fun e => h2 (by subst e; rcases hf with rfl | rfl <;> decide)) (fun e => h2 (by subst e; rcases hf with rfl | rfl <;> decide)) (fun e => h2 (by subst e; rcases hf with rfl | rfl <;> decide)), fun k _ => by rw [h 0 (by omega) (by omega) (by omega)]⟩
theorem z_wi_3 {x : Int32} : (¬ x < 0 ∧ x ≤ 3) ↔ z_wi x 0 3 := by
  unfold z_wi
  rw [Int32.not_lt]
theorem z_wi_50 {x : Int32} : (¬ x < 10 ∧ ¬ 50 < x) ↔ z_wi x 10 50 := by
  unfold z_wi
  rw [Int32.not_lt, Int32.not_lt]
set_option maxRecDepth 20000 in
theorem J_follow {D : zM} {s : zA} (h : zI D s) (x y z : Int32) : z_Ci mX3_follow [.ref 0, .int x, .int y, .int z] D (zJ mX4_follow [.ref 46, .int x, .int y, .int z]) := by
  obtain ⟨hs, hM, hX⟩ := id h
  have h5 := hs.2.1
  have cX : z_nm y (D 0 7) ↔ vp_in y (s 0 1) := by rw [hX.2.1]; exact z_nm_in (by omega)
  have cM : z_wi y 0 (D 46 5 - 1) ↔ vp_in y (s 0 1) := by rw [hM.2.1]; exact z_wi_in (by omega)
  have f1 : ¬ (vp_in x 10 ∧ vp_in y (s 0 1)) → zJ mX4_follow [.ref 46, .int x, .int y, .int z] (-1) D := fun hn => bX4_follow_0 (fun a b _ => absurd ⟨a, cM.mp b⟩ hn) (fun a b _ _ => absurd ⟨a, cM.mp b⟩ hn) (fun a b _ _ => absurd ⟨a, cM.mp b⟩ hn) (fun _ _ => ⟨rfl, s, h⟩) (fun _ => ⟨rfl, s, h⟩)
  have f2 : vp_in x 10 → vp_in y (s 0 1) → ¬ z_wi z 0 3 → ¬ z_wi z 10 50 → zJ mX4_follow [.ref 46, .int x, .int y, .int z] (-2) D := fun a b c d => bX4_follow_0 (fun _ _ q => absurd q c) (fun _ _ _ q => absurd q d) (fun _ _ _ _ => ⟨rfl, s, h⟩) (fun _ q => absurd (cM.mpr b) q) (fun q => absurd a q)
  have go : vp_in x 10 → vp_in y (s 0 1) → (z_wi z 0 3 ∨ z_wi z 10 50) → ∀ x4 : Int32, z_Ok mX3_follow 74 [some (.ref 0), some (.int x), some (.int y), some (.int z), some (.int x4)] [.ref (40 + y.toNatClampNeg), .int (D 38 y.toNatClampNeg), .int x, .ref 1, .ref 32] D (z_pi (zJ mX4_follow [.ref 46, .int x, .int y, .int z])) := by
    intro a b hz x4
    obtain ⟨p, hp, rfl, hp2⟩ := z_inN a
    obtain ⟨n, hn, rfl, hn2⟩ := z_inN b
    have en : (nI n).toNatClampNeg = n := nI_clamp hn2
    have hh := hs.2.2.2.2.2.1 n hn
    rw [en, hX.2.2.2.2.2.1 n hn]
    refine sX3_follow_74 (uX1_go hX hs (Or.inl rfl) (z_sh40 n (by omega)) (by omega) (hX.ar hs (by omega)) hh hp) (fun E hE => ?_)
    obtain ⟨hF, hfo⟩ := hE
    have hbd := fol_bound hs (ar := arN s n) (h := s 5 n) 29 p none (fun _ _ => false)
    generalize hR : folR s (arN s n) (s 5 n) p = R at hF
    rw [show fol s (arN s n) (s 5 n) 29 p none (fun _ _ => false) = R from hR] at hbd
    have hag := hfo.ag (Or.inl rfl)
    have hME := zI.M hM hag (by decide)
    have cM2 : z_wi (nI n) 0 (E 46 5 - 1) := by rw [hME.2.1]; exact (z_wi_in (by omega)).mpr b
    have begin : ∀ {r : Int32}, (∀ F, FMr F R p → zI F s → z_Ok mX4_follow 51 [some (.ref 46), some (.int (nI p)), some (.int (nI n)), some (.int z)] [] F (z_pi (fun r2 D2 => r2 = r ∧ ∃ s, zI D2 s))) → zJ mX4_follow [.ref 46, .int (nI p), .int (nI n), .int z] r E := by
      intro r k
      have kk : z_Ok mX4_follow 42 [some (.ref 46), some (.int (nI p)), some (.int (nI n)), some (.int z)] [.int (nI n), .ref 46] E (z_pi (fun r2 D2 => r2 = r ∧ ∃ s, zI D2 s)) := by
        refine sX4_follow_42 (uX4_laysArrows hME hs (show n < 5 by omega)) (fun F hF1 => bX4_follow_45 ?_)
        have hMF := hME.ag hF1.2 (by decide) (by decide)
        refine sX4_follow_48 (uX4_follows hMF hs hF1.1 hn hp) (fun G hG => ?_)
        rw [hR] at hG
        exact k G hG.1 (h.after hag ((hF1.2.mono (ps' := [54, 55, 56]) (ks' := [13, 14, 15]) (by decide) (by decide)).trans (hG.2.mono (by decide) (by decide))) (by decide) (by decide) (by decide) (by decide))
      exact bX4_follow_0 (fun _ _ _ => kk) (fun _ _ _ _ => kk) (fun _ _ q1 q2 => absurd hz (fun w => w.elim q1 q2)) (fun _ q => absurd cM2 q) (fun q => absurd a q)
    refine bX3_follow_77 (fun q => ?_) (fun q0 q => ?_) (fun q0 q1 q => ?_) (fun q0 q1 q2 q => ?_) (fun q0 q1 q2 q3 => ?_)
    · refine begin (fun F hF2 hzF => bX4_follow_51 (fun w => absurd q w) (fun w => absurd q w) (fun _ => ⟨?_, s, hzF⟩) (fun w => absurd q w) (fun w => absurd q w) (fun w => absurd q w) (fun w => absurd q w) (fun w => absurd q w))
      rw [hF2.1, hF.1]
    · refine begin (fun F hF2 hzF => bX4_follow_51 (fun _ w => absurd q w) (fun _ w => absurd q w) (fun w => absurd w q0) (fun _ _ => ⟨?_, s, hzF⟩) (fun _ w => absurd q w) (fun _ w => absurd q w) (fun _ w => absurd q w) (fun _ w => absurd q w))
      rw [hF2.2.1, hF.2.1]
    · refine begin (fun F hF2 hzF => bX4_follow_51 (fun _ _ w => absurd q w) (fun _ _ w => absurd q w) (fun w => absurd w q0) (fun _ w => absurd w q1) (fun _ _ _ => ⟨?_, s, hzF⟩) (fun _ _ w => absurd q w) (fun _ _ w => absurd q w) (fun _ _ w => absurd q w))
      rw [hF2.2.2.1, hF.2.2.1]
    · have hlen : R.2.1.length < 2 ^ 31 := by omega
      refine sX3_follow_143 (uX1_placeAt (Or.inl rfl) hF hbd.2.1 (by rw [hF.2.1]; exact nI_pos hlen)) (fun r D1 hr => bX3_follow_146 ?_)
      obtain ⟨rfl, rfl⟩ := hr
      rw [hF.2.1, if_pos Int32.le_rfl, nI_clamp hlen]
      refine begin (fun F hF2 hzF => bX4_follow_51 (fun _ _ _ _ => ?_) (fun _ _ _ w => absurd q w) (fun w => absurd w q0) (fun _ w => absurd w q1) (fun _ _ w => absurd w q2) (fun _ _ _ _ => ⟨?_, s, hzF⟩) (fun _ _ _ w => absurd q w) (fun _ _ _ w => absurd q w))
      · rw [hF2.2.1]; exact vp_in_nI (by omega) (by omega)
      · rw [hF2.2.1, nI_clamp hlen, hF2.2.2.2 _ (Nat.le_refl _)]
    · have hz2 : z_wi z 10 50 := by
        refine hz.resolve_left (fun w => ?_)
        unfold z_wi at w
        rw [Int32.le_iff_toInt_le, Int32.le_iff_toInt_le, show (0 : Int32).toInt = 0 by decide, show (3 : Int32).toInt = 3 by decide] at w
        have a0 := z_toInt_ne q0; have a1 := z_toInt_ne q1; have a2 := z_toInt_ne q2; have a3 := z_toInt_ne q3
        rw [show (0 : Int32).toInt = 0 by decide] at a0
        rw [show (1 : Int32).toInt = 1 by decide] at a1
        rw [show (2 : Int32).toInt = 2 by decide] at a2
        rw [show (3 : Int32).toInt = 3 by decide] at a3
        omega
      obtain ⟨j, hj, rfl⟩ : ∃ j : Nat, j ≤ 40 ∧ z = nI (j + 10) := by
        unfold z_wi at hz2
        rw [Int32.le_iff_toInt_le, Int32.le_iff_toInt_le, show (10 : Int32).toInt = 10 by decide, show (50 : Int32).toInt = 50 by decide] at hz2
        refine ⟨(z.toInt - 10).toNat, by omega, ?_⟩
        apply Int32.toInt_inj.mp
        rw [nI_toInt (by omega)]
        omega
      have ej : nI (j + 10) - 10 = nI j := by
        rw [n10, pk_sub (by omega)]
        exact congrArg nI (by omega)
      rw [ej]
      have hlen : R.2.1.length < 2 ^ 31 := by omega
      have i1 : nI R.2.1.length < nI j ↔ R.2.1.length < j := nI_ltI hlen (by omega)
      have i2 : nI j ≤ nI R.2.1.length ↔ j ≤ R.2.1.length := nI_leI (by omega) hlen
      refine sX3_follow_155 (uX1_placeAt (Or.inl rfl) hF hbd.2.1 (nI_pos (by omega))) (fun r D1 hr => bX3_follow_158 ?_)
      obtain ⟨rfl, rfl⟩ := hr
      rw [nI_clamp (show j < 2 ^ 31 by omega)]
      refine begin (fun F hF2 hzF => bX4_follow_51 (fun _ _ _ w => absurd w q3) (fun _ _ _ _ _ => ?_) (fun w => absurd w q0) (fun _ w => absurd w q1) (fun _ _ w => absurd w q2) (fun _ _ _ w => absurd w q3) (fun _ _ _ _ w => ⟨?_, s, hzF⟩) (fun _ _ _ _ w => ⟨?_, s, hzF⟩))
      · rw [ej]; exact vp_in_nI (by omega) (by omega)
      · rw [ej, hF2.2.1, i1] at w
        rw [if_neg (fun q => by have := i2.mp q; omega)]
      · rw [ej, hF2.2.1, i1] at w
        rw [if_pos (i2.mpr (by omega)), ej, nI_clamp (by omega), hF2.2.2.2 j (by omega)]
  have n03 : ¬ z < 10 → ¬ z ≤ 3 := by
    rw [Int32.lt_iff_toInt_lt, Int32.le_iff_toInt_le, show (10 : Int32).toInt = 10 by decide, show (3 : Int32).toInt = 3 by decide]
    omega
  have n05 : z < 10 → ¬ z_wi z 10 50 := fun q w => (z_wi_50.mpr w).1 q
  have n06 : 50 < z → ¬ z_wi z 10 50 := fun q w => (z_wi_50.mpr w).2 q
  have in5 : z_nm y (D 0 7) → vp_in y 5 := fun b => z_in_mono (cX.mp b) h5
  refine bX3_follow_0 (fun _ b _ _ _ => in5 b) (fun _ b _ _ _ _ => in5 b) (fun _ b _ _ => in5 b) (fun a b c d => f2 a (cX.mp b) (fun w => (z_wi_3.mpr w).1 d) (n05 c)) (fun a b c d e => go a (cX.mp b) (Or.inl (z_wi_3.mp ⟨d, e⟩)) 0) (fun a b c d e => f2 a (cX.mp b) (fun w => e (z_wi_3.mpr w).2) (n05 c)) (fun a b c d e => f2 a (cX.mp b) (fun w => (z_wi_3.mpr w).1 e) (n06 d)) (fun a b c d e g => absurd g (n03 c)) (fun a b c d e g => f2 a (cX.mp b) (fun w => g (z_wi_3.mpr w).2) (n06 d)) (fun a b c d => go a (cX.mp b) (Or.inr (z_wi_50.mp ⟨c, d⟩)) 1) (fun a b => f1 (fun q => b (cX.mpr q.2))) (fun a => f1 (fun q => a q.1))
