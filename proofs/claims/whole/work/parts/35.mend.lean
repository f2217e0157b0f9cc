/-! mend: what each board more would give; the best one -/
def fN (s : zA) (n : Nat) : Nat → Nat := farF s (s 5 n)
def arP (s : zA) (n p : Nat) : Nat → Option Nat := fun q => if q = p then bst s (fN s n) p else arN s n q
def moC (s : zA) (p n : Nat) : Bool := !bd s p n && (bst s (fN s n) p).isSome
def gN (s : zA) (p n : Nat) : Nat := mE s (arP s n p) (s 5 n) 0
def bN (s : zA) (n : Nat) : Nat := mE s (arN s n) (s 5 n) 0
def mo (s : zA) (x : Nat) : Nat := if x % 5 < s 0 1 ∧ moC s (x / 5) (x % 5) = true then gN s (x / 5) (x % 5) - bN s (x % 5) else 0
theorem arP_lt {s : zA} (hs : WF s) {n p : Nat} (hn : n < 5) : ∀ q t, q < 10 → arP s n p q = some t → t < 10 := fun q t hq h => by
  unfold arP at h
  by_cases e : q = p
  · rw [if_pos e] at h; exact (bst_spec h).1
  · rw [if_neg e] at h; exact arN_lt hs hn q t hq h
/-- the best of some numbers: none of them is worth anything, or the least of those worth the most -/
def Opt (f : Nat → Nat) (S : Nat → Prop) (o : Option Nat) : Prop := match o with
  | none => ∀ x, S x → f x = 0
  | some y => S y ∧ 0 < f y ∧ ∀ x, S x → f x < f y ∨ (f x = f y ∧ y ≤ x)
theorem Opt.uniq {f : Nat → Nat} {S T : Nat → Prop} (hST : ∀ x, S x ↔ T x) {o p : Option Nat} (h1 : Opt f S o) (h2 : Opt f T p) : o = p := by
  cases o with
  | none =>
    cases p with
    | none => rfl
    | some y =>
      have := h1 y ((hST y).mpr h2.1)
      have := h2.2.1
      omega
  | some x =>
    cases p with
    | none =>
      have := h2 x ((hST x).mp h1.1)
      have := h1.2.1
      omega
    | some y =>
      have a := h1.2.2 y ((hST y).mpr h2.1)
      have b := h2.2.2 x ((hST x).mp h1.1)
      have : x = y := by omega
      rw [this]
theorem Opt.same {f : Nat → Nat} {S T : Nat → Prop} (hST : ∀ x, S x ↔ T x) {o : Option Nat} (h : Opt f S o) : Opt f T o := by
  cases o with
  | none => exact fun x hx => h x ((hST x).mpr hx)
  | some y => exact ⟨(hST y).mp h.1, h.2.1, fun x hx => h.2.2 x ((hST x).mpr hx)⟩
/-- one number more, worth no more than what there is -/
theorem Opt.pass {f : Nat → Nat} {S T : Nat → Prop} {z : Nat} (hST : ∀ x, T x ↔ (S x ∨ x = z)) {o : Option Nat} (h : Opt f S o) (hz : match o with
  | none => f z = 0
  | some y => f z < f y ∨ (f z = f y ∧ y ≤ z)) : Opt f T o := by
  cases o with
  | none =>
    intro x hx
    rcases (hST x).mp hx with q | q
    · exact h x q
    · rw [q]; exact hz
  | some y =>
    refine ⟨(hST y).mpr (Or.inl h.1), h.2.1, fun x hx => ?_⟩
    rcases (hST x).mp hx with q | q
    · exact h.2.2 x q
    · rw [q]; exact hz
/-- one number more, that is the best now -/
theorem Opt.take {f : Nat → Nat} {S T : Nat → Prop} {z : Nat} (hST : ∀ x, T x ↔ (S x ∨ x = z)) {o : Option Nat} (h : Opt f S o) (hp : 0 < f z) (hz : match o with
  | none => True
  | some y => f y < f z ∨ (f y = f z ∧ z ≤ y)) : Opt f T (some z) := by
  refine ⟨(hST z).mpr (Or.inr rfl), hp, fun x hx => ?_⟩
  rcases (hST x).mp hx with q | q
  · cases o with
    | none =>
      have := h x q
      omega
    | some y =>
      have a := h.2.2 x q
      have b : f y < f z ∨ (f y = f z ∧ z ≤ y) := hz
      omega
  · subst q
    exact Or.inr ⟨rfl, Nat.le_refl _⟩
def moV (s : zA) (o : Option Nat) : Nat := match o with
  | none => 0
  | some y => mo s y
theorem gN_le (s : zA) (p n : Nat) : gN s p n ≤ 10 := mE_le _ _ _ _
theorem bN_le (s : zA) (n : Nat) : bN s n ≤ 10 := mE_le _ _ _ _
theorem mo_le (s : zA) (x : Nat) : mo s x ≤ 10 := by
  unfold mo
  have := gN_le s (x / 5) (x % 5)
  split <;> omega
/-- the reference's moreBy -/
def mbR (s : zA) (p n : Nat) : Int32 := if moC s p n = true then nI (gN s p n) - nI (bN s n) else -9
set_option maxRecDepth 20000 in
theorem uX4_moreBy {D : zM} {s : zA} (hI : IM D s) (hs : WF s) {p n : Nat} (hp : p < 10) (hn : n < s 0 1) : z_Ci mX4_moreBy [.ref 46, .int (nI p), .int (nI n)] D (fun r E => r = mbR s p n ∧ z_ag 46 [53, 54, 55, 56] [13, 14, 15] D E) := by
  have h5 := hs.2.1
  have ep : (nI p).toNatClampNeg = p := nI_clamp (by omega)
  have e5 : (nI (5 * p + n)).toNatClampNeg = 5 * p + n := nI_clamp (by omega)
  have hf := farF_bdd hs (s 5 n)
  refine bX4_moreBy_0 (sX4_moreBy_2 (uX4_findFar hI hs hn) (fun E hE => bX4_moreBy_5 ?_))
  have hIE := hI.ag hE.2 (by decide) (by decide)
  refine sX4_moreBy_7 (uX4_bestAt hIE hs hE.1 (fun q => hf.le (by omega) q) hp) (fun r F hF => ?_)
  obtain ⟨rfl, rfl⟩ := hF
  have hto := hIE.2.2.2.2.2.2 (5 * p + n) (by omega)
  have i9 : (oI (aO (s 6 (5 * p + n))) = -9) = (bd s p n = false) := by
    rw [bd_iff hs (show 5 * p + n < 50 by omega)]
    simp [bd]
  have ib : (oI (bst s (farF s (s 5 n)) p) = -9) = ((bst s (farF s (s 5 n)) p).isSome = false) := oI_lt9 (fun k hk => (bst_spec hk).1)
  have hag := hE.2.mono (ps' := [53, 54, 55, 56]) (ks' := [13, 14, 15]) (by decide) (by decide)
  apply bX4_moreBy_10 <;> try simp only [z_5pn, e5, hto, i9, ib]
  · exact vp_in_nI (by omega) (by omega)
  · intro c
    refine ⟨?_, hag⟩
    have : bd s p n = true := by simpa using c
    rw [mbR, if_neg (by simp [moC, this])]
  · intro c1 c2
    have c2' : (bst s (fN s n) p).isSome = true := by
      cases h9 : (bst s (fN s n) p).isSome with
      | true => rfl
      | false => exact absurd h9 c2
    have hC : moC s p n = true := by simp [moC, c1, c2']
    refine sX4_moreBy_37 (uX4_laysArrows hIE hs (show n < 5 by omega)) (fun G hG => bX4_moreBy_40 ?_)
    have hIG := hIE.ag hG.2 (by decide) (by decide)
    refine sX4_moreBy_43 (uX4_manyEnd hIG hs hG.1 hn (how := 0) (by omega)) (fun r K hK => bX4_moreBy_46 (vp_in_nI hp (by omega)) ?_)
    obtain ⟨rfl, hK⟩ := hK
    rw [ep]
    have hIK := hIG.ag hK (by decide) (by decide)
    have agK := (hag.trans (hG.2.mono (ps' := [53, 54, 55, 56]) (ks' := [13, 14, 15]) (by decide) (by decide))).trans (hK.mono (by decide) (by decide))
    have agL := agK.up (q := 54) p (oI (bst s (farF s (s 5 n)) p)) (by decide) (by decide)
    have hAL : AR (z_up K 54 p (oI (bst s (farF s (s 5 n)) p))) (arP s n p) := ⟨fun q hq => by
      by_cases e : q = p
      · rw [e, z_up_eq]; simp [arP, fN]
      · rw [z_up_k e, hK.1 54 (by omega) (by decide), hG.1.1 q hq]; simp [arP, e], arP_lt hs (by omega)⟩
    refine sX4_moreBy_58 (uX4_manyEnd (hI.ag agL (by decide) (by decide)) hs hAL hn (how := 0) (by omega)) (fun r L hL => bX4_moreBy_61 ?_)
    obtain ⟨rfl, hL⟩ := hL
    refine ⟨?_, agL.trans (hL.mono (by decide) (by decide))⟩
    rw [mbR, if_pos hC]
    rfl
  · intro c1 c2
    refine ⟨?_, hag⟩
    rw [mbR, if_neg (by
      have : (bst s (fN s n) p).isSome = false := c2
      simp [moC, this])]
theorem sub_le {g b m : Nat} (hg : g ≤ 10) (hb : b ≤ 10) (hm : m ≤ 10) : (nI g - nI b ≤ nI m) = (g - b ≤ m) := by
  by_cases h : b ≤ g
  · rw [pk_sub h]
    exact propext (nI_leI (by omega) (by omega))
  · have key : ∀ g, g ≤ 10 → ∀ b, b ≤ 10 → ∀ m, m ≤ 10 → ¬ b ≤ g → nI g - nI b ≤ nI m := by decide +kernel
    have h1 := key g hg b hb m hm h
    have h2 : g - b ≤ m := by omega
    simp [h1, h2]
theorem m9_le {m : Nat} (hm : m ≤ 10) : (-9 : Int32) ≤ nI m := by
  have key : ∀ m, m ≤ 10 → (-9 : Int32) ≤ nI m := by decide +kernel
  exact key m hm
theorem div5 : ∀ x, x < 50 → nI x / 5 = nI (x / 5) ∧ nI x - nI (x / 5) * 5 = nI (x % 5) := by decide +kernel
def meA (s : zA) (now : Nat) (x1 : Int32) (o : Option Nat) : Int32 := match o with
  | none => -9
  | some y => if x1 = 0 then nI (y / 5) else if x1 = 1 then nI (y % 5) else nI (now + mo s y)
set_option maxRecDepth 20000 in
theorem uX4_mendL {D : zM} {s : zA} (hI : IM D s) (hs : WF s) {now : Nat} {x1 : Int32} (hx1 : x1 = 0 ∨ x1 = 1 ∨ x1 = 2) {o : Option Nat} (hfin : Opt (mo s) (fun x => x < 50 ∧ x % 5 < s 0 1) o) {Q : Int32 → zM → Prop} (hQ : ∀ E, z_ag 46 [53, 54, 55, 56] [13, 14, 15] D E → Q (meA s now x1 o) E) :
    z_Ok mX4_mend 27 [some (.ref 46), some (.int x1), some (.int (nI now)), some (.int 0), some (.int (-9)), some (.int 0), none] [] D (z_pi Q) := by
  have h5 := hs.2.1
  have loop : ∀ (m x : Nat) (c : Option Nat) (o6 : Option Value) (E : zM), x + m = 50 → Opt (mo s) (fun y => y < x ∧ y % 5 < s 0 1) c → z_ag 46 [53, 54, 55, 56] [13, 14, 15] D E → z_Ok mX4_mend 27 [some (.ref 46), some (.int x1), some (.int (nI now)), some (.int (nI (moV s c))), some (.int (oI c)), some (.int (nI x)), o6] [] E (z_pi Q) := by
    intro m
    induction m with
    | zero =>
      intro x c o6 E hx hO hag
      have e1 : (50 ≤ nI x) = True := by rw [show (50 : Int32) = nI 50 from rfl, nI_leI (by omega) (by omega)]; simp; omega
      have hx50 : x = 50 := by omega
      rw [hx50] at hO
      have eo : c = o := Opt.uniq (fun _ => Iff.rfl) hO hfin
      have hq := hQ E hag
      rw [← eo] at hq
      cases c with
      | none =>
        apply bX4_mend_27 <;> simp only [e1, not_true, false_imp_iff, true_imp_iff]
        · exact fun z => absurd rfl z
        · exact fun z => absurd rfl z
        · exact fun z => absurd rfl z
        · exact fun _ => hq
      | some y =>
        have hy : y < 50 := hO.1.1
        have i9 : (oI (some y) = -9) = False := eq_false (nI_ne9 (show y < 2 ^ 31 by omega))
        obtain ⟨d1, d2⟩ := div5 y hy
        apply bX4_mend_27 <;> simp only [e1, i9, not_true, false_imp_iff, true_imp_iff, not_false_eq_true]
        · intro z0 z1
          have hq' : Q (if x1 = 0 then nI (y / 5) else if x1 = 1 then nI (y % 5) else nI (now + mo s y)) E := hq
          rw [if_neg z0, if_neg z1] at hq'
          rw [nI_add]
          exact hq'
        · intro z0 z1
          have hq' : Q (if x1 = 0 then nI (y / 5) else if x1 = 1 then nI (y % 5) else nI (now + mo s y)) E := hq
          rw [if_neg z0, if_pos z1] at hq'
          show Q (nI y - nI y / 5 * 5) E
          rw [d1, d2]
          exact hq'
        · intro z0
          have hq' : Q (if x1 = 0 then nI (y / 5) else if x1 = 1 then nI (y % 5) else nI (now + mo s y)) E := hq
          rw [if_pos z0] at hq'
          show Q (nI y / 5) E
          rw [d1]
          exact hq'
    | succ m ih =>
      intro x c o6 E hx hO hag
      have e1 : (50 ≤ nI x) = False := by rw [show (50 : Int32) = nI 50 from rfl, nI_leI (by omega) (by omega)]; simp; omega
      have hIE := hI.ag hag (by decide) (by decide)
      obtain ⟨d1, d2⟩ := div5 x (by omega)
      have i5 : (E 46 5 ≤ nI (x % 5)) = (s 0 1 ≤ x % 5) := by rw [hIE.2.1]; exact propext (nI_leI (by omega) (by omega))
      have ih' := fun c o6 E => ih (x + 1) c o6 E (by omega)
      rw [nI_succ x] at ih'
      have hm := mo_le s x
      have hmv : moV s c ≤ 10 := by cases c with
        | none => show 0 ≤ 10; omega
        | some y => exact mo_le s y
      have ST : x % 5 < s 0 1 → ∀ y, (y < x + 1 ∧ y % 5 < s 0 1) ↔ ((y < x ∧ y % 5 < s 0 1) ∨ y = x) := fun hh y => by
        constructor
        · intro q; by_cases e : y = x
          · exact Or.inr e
          · exact Or.inl ⟨by omega, q.2⟩
        · rintro (q | q)
          · exact ⟨by omega, q.2⟩
          · subst q; exact ⟨by omega, hh⟩
      apply bX4_mend_27 <;> simp only [e1, d1, d2, i5, m9_le hmv, not_false_eq_true, false_imp_iff, true_imp_iff, not_true, implies_true]
      · intro z
        refine ih' c _ E (hO.same (fun y => ?_)) hag
        constructor
        · intro q; exact ⟨by omega, q.2⟩
        · intro q
          refine ⟨?_, q.2⟩
          have : y ≠ x := fun e => by rw [e] at q; omega
          omega
      · intro z
        refine sX4_mend_54 (uX4_moreBy hIE hs (show x / 5 < 10 by omega) (show x % 5 < s 0 1 by omega)) (fun r F hF => ?_)
        obtain ⟨rfl, hag2⟩ := hF
        have hag3 := hag.trans hag2
        have zz : x % 5 < s 0 1 := by omega
        by_cases hC : moC s (x / 5) (x % 5) = true
        · have emo : mo s x = gN s (x / 5) (x % 5) - bN s (x % 5) := by unfold mo; rw [if_pos ⟨zz, hC⟩]
          have er : mbR s (x / 5) (x % 5) = nI (gN s (x / 5) (x % 5)) - nI (bN s (x % 5)) := by rw [mbR, if_pos hC]
          have isl := sub_le (gN_le s (x / 5) (x % 5)) (bN_le s (x % 5)) hmv
          rw [er]
          apply bX4_mend_57 <;> simp only [isl, ← emo]
          · intro w
            refine ih' c _ F (hO.pass (ST zz) ?_) hag3
            cases c with
            | none =>
              have w' : mo s x ≤ 0 := w
              show mo s x = 0
              omega
            | some y =>
              have w' : mo s x ≤ mo s y := w
              have := hO.1.1
              show mo s x < mo s y ∨ (mo s x = mo s y ∧ y ≤ x)
              omega
          · intro w
            have hgb : bN s (x % 5) ≤ gN s (x / 5) (x % 5) := by omega
            rw [pk_sub hgb, ← emo]
            have := ih' (some x) (some (.int (nI (mo s x)))) F (hO.take (ST zz) (by omega) (by
              cases c with
              | none => trivial
              | some y =>
                have w' : ¬ mo s x ≤ mo s y := w
                show mo s y < mo s x ∨ (mo s y = mo s x ∧ x ≤ y)
                omega)) hag3
            exact this
        · have emo : mo s x = 0 := by unfold mo; rw [if_neg (fun q => hC q.2)]
          have er : mbR s (x / 5) (x % 5) = -9 := by rw [mbR, if_neg hC]
          rw [er]
          refine bX4_mend_57 (fun _ => ?_) (fun w => absurd (m9_le hmv) w)
          refine ih' c _ F (hO.pass (ST zz) ?_) hag3
          cases c with
          | none => exact emo
          | some y =>
            have := hO.2.1
            show mo s x < mo s y ∨ (mo s x = mo s y ∧ y ≤ x)
            omega
  exact loop 50 0 none none D (by omega) (fun x hx => by have := hx.1; omega) z_ag.rfl
