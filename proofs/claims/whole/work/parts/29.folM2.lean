/-! ONE WHO FOLLOWS, the reference's loop -/
def HC (D : zM) (s : zA) (V : Nat → Nat → Bool) : Prop := ∀ k, k < s 0 0 → D 55 (14 * s 1 k + k) = bI (V (s 2 k) (s 1 k)) ∧ D 55 (14 * s 2 k + k) = bI (V (s 1 k) (s 2 k))
theorem HC.at {D : zM} {s : zA} {V : Nat → Nat → Bool} (h : HC D s V) {p q k : Nat} (hk : k < s 0 0) (hm : mt s p q k = true) : D 55 (14 * q + k) = bI (V p q) := by
  rcases mt_iff.mp hm with ⟨e1, e2⟩ | ⟨e1, e2⟩
  · have := (h k hk).2
    rw [e1, e2] at this; exact this
  · have := (h k hk).1
    rw [e1, e2] at this; exact this
theorem HC.up {D E : zM} {s : zA} (hs : WF s) {V : Nat → Nat → Bool} (h : HC D s V) {p q k : Nat} (hk : k < s 0 0) (hm : mt s p q k = true) (h1 : E 55 (14 * q + k) = 1) (h2 : ∀ i, i ≠ 14 * q + k → E 55 i = D 55 i) : HC E s (vup V p q) := by
  intro j hj
  have h14 := hs.1
  obtain ⟨a1, a2⟩ := h j hj
  have hltk := (hs.2.2.2.2.1 k hk).1
  have hltj := (hs.2.2.2.2.1 j hj).1
  have key : ∀ a b : Nat, mt s a b j = true → E 55 (14 * b + j) = bI (vup V a b |> fun _ => vup V p q a b) := by
    intro a b hab
    by_cases e : j = k ∧ b = q
    · obtain ⟨rfl, rfl⟩ := e
      have : a = p := mt_q (s := s) (p := b) (k := j) (by omega) (by rw [mt_comm]; exact hab) (by rw [mt_comm]; exact hm)
      subst this
      rw [h1]
      simp [vup, bI]
    · rw [h2 _ (by
        intro z
        apply e
        omega), h.at hj hab]
      refine congrArg bI ?_
      unfold vup
      by_cases e1 : a = p
      · by_cases e2 : b = q
        · subst e1; subst e2
          exact absurd ⟨mt_uniq hs hj hk hab hm, rfl⟩ e
        · simp [e2]
      · simp [e1]
  exact ⟨key (s 2 j) (s 1 j) (mt_iff.mpr (Or.inr ⟨rfl, rfl⟩)), key (s 1 j) (s 2 j) (mt_iff.mpr (Or.inl ⟨rfl, rfl⟩))⟩
def FM (E D : zM) (m T : Nat) (r : Nat × List Nat × Nat) (p : Nat) : Prop := E 46 13 = nI r.1 ∧ E 46 14 = nI (m + r.2.1.length) ∧ E 46 15 = nI (T + r.2.2) ∧ (∀ i, i < m → E 56 i = D 56 i) ∧ ∀ i, i ≤ r.2.1.length → E 56 (m + i) = nI ((p :: r.2.1).getD i 0)
theorem uX4_fol_loop {s : zA} (hs : WF s) {ar : Nat → Option Nat} {nm : Nat} (hnm : nm < s 0 1) {x1 : Int32} : ∀ (n m T p : Nat) (prev ex : Option Nat) (V : Nat → Nat → Bool) (o5 : Option Value) (D : zM), IM D s → AR D ar → D 46 13 = -9 → D 46 14 = nI m → D 46 15 = nI T → HC D s V → PB s p prev ex → cV s V + n = 29 → m + n = 29 → p < 10 → D 56 m = nI p →
    z_Ok mX4_follows 51 [some (.ref 46), some (.int x1), some (.int (nI nm)), some (.int (nI p)), some (.int (oI ex)), o5] [] D (z_pv (fun E => FM E D m T (fol s ar (s 5 nm) n p prev V) p ∧ z_ag 46 [55, 56] [13, 14, 15] D E)) := by
  intro n
  have h14 := hs.1
  have h5 := hs.2.1
  have hh := hs.2.2.2.2.2.1 nm hnm
  have enm : (nI nm).toNatClampNeg = nm := nI_clamp (by omega)
  induction n with
  | zero =>
    intro m T p prev ex V o5 D hI hA h13 h14' h15 hH hB hc hm hp hw
    have := cV_le hs V
    omega
  | succ n ih =>
    intro m T p prev ex V o5 D hI hA h13 hst hgo hH hB hc hm hp hw
    have i51 : (nI p = D 51 (nI nm).toNatClampNeg) = (p = s 5 nm) := by
      rw [enm, hI.2.2.2.2.2.1 nm hnm]; exact propext (nI_eq (by omega) (by omega))
    refine bX4_follows_51 (fun _ => vp_in_nI (by omega) (by omega)) (fun z => absurd h13 z) (fun _ z => ?_) (fun _ z => ?_)
    · rw [i51] at z
      refine sX4_follows_80 (uX4_nextWalk hI hs hA hp hB) (fun y D1 hy => ?_)
      obtain ⟨hnw, hag⟩ := hy
      have hI1 := hI.ag hag (by decide) (by decide)
      have d14 : D1 46 14 = nI m := by rw [hag.2 14 (by decide)]; exact hst
      have d15 : D1 46 15 = nI T := by rw [hag.2 15 (by decide)]; exact hgo
      have d55 : D1 55 = D 55 := hag.1 55 (by omega) (by decide)
      have d56 : D1 56 = D 56 := hag.1 56 (by omega) (by decide)
      cases hnx : nxt s ar p prev with
      | inl e =>
        rw [hnx] at hnw
        have he := nxt_end hnx
        have hv : D1 46 13 = nI e := hnw
        have ne : ¬ D1 46 13 = -9 := by rw [hv]; exact nI_ne9 (by omega)
        refine bX4_follows_83 (fun w => absurd w ne) (fun w => absurd w ne) (fun w => absurd w ne) (fun w => absurd w ne) (fun w => absurd w ne) (fun w => absurd w ne) (fun w => absurd w ne) (fun w => absurd w ne) (fun w => absurd w ne) (fun _ => ?_)
        rw [fol_end z hnx]
        refine ⟨⟨hv, d14, d15, fun i _ => by rw [d56], fun i hi => ?_⟩, hag.mono (by decide) (by decide)⟩
        have : i = 0 := by simpa using hi
        subst this
        rw [d56]
        exact hw
      | inr q =>
        rw [hnx] at hnw
        obtain ⟨hv, k, hk, rfl, hmt, hop⟩ := hnw
        have ek : (nI k).toNatClampNeg = k := nI_clamp (by omega)
        obtain ⟨f1, f2, f3, f4⟩ := hI1.2.2.2.2.1 k hk
        obtain ⟨g1, g2, g3, g4, g5, -⟩ := hs.2.2.2.2.1 k hk
        have hoa : oa s p q = true := (oa_iff hs).mpr ⟨k, hk, hmt, hop⟩
        have hol : ol s p q = s 3 k := ol_of hs hk hmt hop
        have hq := (oa_lt hs hoa).2.1
        have e14 : ∀ t, t < 10 → (14 : Int32) * nI t + nI k = nI (14 * t + k) := fun t _ => by rw [n14, pk_mul, nI_add]
        have ei : (nI (14 * q + k)).toNatClampNeg = 14 * q + k := nI_clamp (by omega)
        have es : (nI (m + 1)).toNatClampNeg = m + 1 := nI_clamp (by omega)
        have hc55 : D1 55 (14 * q + k) = bI (V p q) := by rw [d55]; exact hH.at hk hmt
        have iv : (bI (V p q) = 0) = (V p q = false) := propext (bI_0 _)
        -- the state behind a step
        have step : ∀ (v : Int32) (F : zM), F = z_up (z_up (z_up (z_up (z_up D1 46 14 (nI (m + 1))) 46 15 (nI (T + s 3 k))) 56 (m + 1) (nI q)) 46 13 v) 55 (14 * q + k) 1 → IM F s ∧ AR F ar ∧ F 46 13 = v ∧ F 46 14 = nI (m + 1) ∧ F 46 15 = nI (T + s 3 k) ∧ HC F s (vup V p q) ∧ (∀ i, i ≤ m → F 56 i = D 56 i) ∧ F 56 (m + 1) = nI q ∧ z_ag 46 [55, 56] [13, 14, 15] D F := by
          intro v F hF
          have agF : z_ag 46 [55, 56] [13, 14, 15] D F := by
            rw [hF]
            exact (((((hag.mono (ps' := [55, 56]) (ks' := [13, 14, 15]) (by decide) (by decide)).fld _ (by decide)).fld _ (by decide)).up _ _ (by decide) (by decide)).fld _ (by decide)).up _ _ (by decide) (by decide)
          refine ⟨hI.ag agF (by decide) (by decide), ⟨fun t ht => ?_, hA.2⟩, ?_, ?_, ?_, ?_, fun i hi => ?_, ?_, agF⟩
          · rw [agF.1 54 (by omega) (by decide)]; exact hA.1 t ht
          · rw [hF, z_up_ne (by omega), z_up_eq]
          · rw [hF, z_up_ne (by omega), z_up_k (by omega), z_up_ne (by omega), z_up_k (by omega), z_up_eq]
          · rw [hF, z_up_ne (by omega), z_up_k (by omega), z_up_ne (by omega), z_up_eq]
          · refine hH.up hs hk hmt (by rw [hF, z_up_eq]) (fun i hi => ?_)
            rw [hF, z_up_k hi, z_up_ne (by omega), z_up_ne (by omega), z_up_ne (by omega), z_up_ne (by omega), d55]
          · rw [hF, z_up_ne (by omega), z_up_ne (by omega), z_up_k (by omega), z_up_ne (by omega), z_up_ne (by omega), d56]
          · rw [hF, z_up_ne (by omega), z_up_ne (by omega), z_up_eq]
        have hPB : PB s q (some p) (some k) := Or.inr ⟨p, k, rfl, rfl, hk, by rw [mt_comm]; exact hmt⟩
        have goOn : V p q = false → ∀ F, F = z_up (z_up (z_up (z_up (z_up D1 46 14 (nI (m + 1))) 46 15 (nI (T + s 3 k))) 56 (m + 1) (nI q)) 46 13 (-9)) 55 (14 * q + k) 1 → z_Ok mX4_follows 51 [some (.ref 46), some (.int x1), some (.int (nI nm)), some (.int (nI q)), some (.int (nI k)), some (.int (nI k))] [] F (z_pv (fun E => FM E D m T (fol s ar (s 5 nm) (n + 1) p prev V) p ∧ z_ag 46 [55, 56] [13, 14, 15] D E)) := by
          intro hvf F hF
          obtain ⟨a1, a2, a3, a4, a5, a6, a7, a8, a9⟩ := step _ F hF
          have := ih (m + 1) (T + s 3 k) q (some p) (some k) (vup V p q) (some (.int (nI k))) F a1 a2 a3 a4 a5 a6 hPB (by rw [cV_up hs hoa hvf]; omega) (by omega) hq a8
          refine z_weak this (fun o E hE => ?_)
          cases o with
          | some _ => exact hE.elim
          | none =>
            obtain ⟨⟨b1, b2, b3, b4, b5⟩, b6⟩ := hE
            rw [fol_on z hnx hvf]
            refine ⟨⟨b1, ?_, ?_, fun i hi => ?_, fun i hi => ?_⟩, a9.trans b6⟩
            · rw [b2]; refine congrArg nI ?_; simp; omega
            · rw [b3, hol]; refine congrArg nI ?_; dsimp only; omega
            · rw [b4 i (by omega), a7 i (by omega)]
            · cases i with
              | zero =>
                rw [Nat.add_zero, b4 m (by omega), a7 m (by omega)]
                exact hw
              | succ i =>
                have := b5 i (by simpa using hi)
                rw [show m + (i + 1) = m + 1 + i by omega, this]
                rfl
        have stop : V p q = true → ∀ F, F = z_up (z_up (z_up (z_up (z_up D1 46 14 (nI (m + 1))) 46 15 (nI (T + s 3 k))) 56 (m + 1) (nI q)) 46 13 4) 55 (14 * q + k) 1 → z_Ok mX4_follows 51 [some (.ref 46), some (.int x1), some (.int (nI nm)), some (.int (nI q)), some (.int (nI k)), some (.int (nI k))] [] F (z_pv (fun E => FM E D m T (fol s ar (s 5 nm) (n + 1) p prev V) p ∧ z_ag 46 [55, 56] [13, 14, 15] D E)) := by
          intro hvt F hF
          obtain ⟨a1, a2, a3, a4, a5, a6, a7, a8, a9⟩ := step _ F hF
          have ne : ¬ F 46 13 = -9 := by rw [a3]; decide
          refine bX4_follows_51 (fun w => absurd w ne) (fun _ => ?_) (fun w => absurd w ne) (fun w => absurd w ne)
          rw [fol_again z hnx hvt]
          refine ⟨⟨a3, a4, by rw [a5, hol], fun i hi => a7 i (by omega), fun i hi => ?_⟩, a9⟩
          have : i = 0 ∨ i = 1 := by
            have : i ≤ 1 := by simpa using hi
            omega
          rcases this with rfl | rfl
          · rw [Nat.add_zero, a7 m (by omega)]; exact hw
          · exact a8
        have tot : nI T + nI (s 3 k) = nI (T + s 3 k) := nI_add _ _
        have vt : ¬ V p q = false → V p q = true := fun w => by
          cases h9 : V p q with
          | true => rfl
          | false => exact absurd h9 w
        by_cases hside : s 1 k = p
        · have hq2 : s 2 k = q := by rcases mt_iff.mp hmt with ⟨_, e⟩ | ⟨e1, e2⟩ <;> omega
          have e47 : D1 47 k = nI p := by rw [f1, hside]
          have e48 : D1 48 k = nI q := by rw [f2, hq2]
          apply bX4_follows_83 <;> simp only [hv, ek, e47, e48, f3, d14, d15, tot, ← nI_succ, es, e14 q hq, ei, hc55, iv, true_imp_iff, not_true, false_imp_iff, eq_self]
          · exact vp_in_nI (by omega) (by omega)
          · exact vp_in_nI (by omega) (by omega)
          · exact vp_in_nI (by omega) (by omega)
          · exact fun w => goOn w _ rfl
          · exact fun w => stop (vt w) _ rfl
        · have hq2 : s 1 k = q := by rcases mt_iff.mp hmt with ⟨e, _⟩ | ⟨e, _⟩ <;> omega
          have e47 : D1 47 k = nI q := by rw [f1, hq2]
          have hqp : (nI q = nI p) = False := by
            rw [nI_eq (by omega) (by omega)]
            exact eq_false (fun e => hside (hq2.trans e))
          apply bX4_follows_83 <;> simp only [hv, ek, e47, hqp, f3, d14, d15, tot, ← nI_succ, es, e14 q hq, ei, hc55, iv, true_imp_iff, not_true, false_imp_iff, not_false_eq_true, eq_self]
          · exact vp_in_nI (by omega) (by omega)
          · exact vp_in_nI (by omega) (by omega)
          · exact vp_in_nI (by omega) (by omega)
          · exact fun w => goOn w _ rfl
          · exact fun w => stop (vt w) _ rfl
    · rw [i51] at z
      rw [fol_home z]
      refine ⟨⟨by rw [z_up_eq]; rfl, by rw [z_up_k (by omega)]; exact hst, by rw [z_up_k (by omega)]; exact hgo, fun i _ => by rw [z_up_ne (by omega)], fun i hi => ?_⟩, z_ag.rfl.fld _ (by decide)⟩
      have : i = 0 := by simpa using hi
      subst this
      rw [z_up_ne (by omega)]
      exact hw
