/-! far -/
theorem z_wi_1 {x : Int32} : z_wi x 0 1 ↔ (x = 0 ∨ x = 1) := by
  unfold z_wi
  rw [Int32.le_iff_toInt_le, Int32.le_iff_toInt_le, ← Int32.toInt_inj, ← Int32.toInt_inj, show (0 : Int32).toInt = 0 by decide, show (1 : Int32).toInt = 1 by decide]
  omega
theorem z_1_wi {x : Int32} : (¬ x < 0 ∧ x ≤ 1) ↔ z_wi x 0 1 := by
  unfold z_wi
  rw [Int32.not_lt]
/-- the state is held on where a call has only used its own rows -/
theorem zI.after {D E : zM} {s : zA} {ps ks qs ls : List Nat} (h : zI D s) {F : zM} (h1 : z_ag 0 ps ks D E) (h2 : z_ag 46 qs ls E F) (hp : ps.all (fun q => decide ((18 ≤ q ∧ q < 38) ∨ q = 45)) = true) (hk : ks.all (fun k => decide (9 < k)) = true) (hq : qs.all (fun q => decide (52 < q)) = true) (hl : ls.all (fun k => decide (k ≠ 0 ∧ k ≠ 5 ∧ k ≠ 7 ∧ k ≠ 8)) = true) : zI F s := by
  obtain ⟨hs, hM, hX⟩ := h
  have hX1 : IX E s := hX.ag h1 (List.all_eq_true.mpr (fun q hq => decide_eq_true (by have := of_decide_eq_true (List.all_eq_true.mp hp q hq); omega))) hk
  have hM1 : IM E s := hM.ag (ps := ps ++ [0]) (ks := []) ⟨fun q a b => h1.1 q (fun e => b (by simp [e])) (fun c => b (by simp [c])), fun k _ => by
    rw [h1.1 46 (by omega) (fun c => by have := of_decide_eq_true (List.all_eq_true.mp hp 46 c); omega)]⟩ (List.all_eq_true.mpr (fun q hq => decide_eq_true (by
      rcases List.mem_append.mp hq with c | c
      · have := of_decide_eq_true (List.all_eq_true.mp hp q c); omega
      · have : q = 0 := by simpa using c
        omega))) (by rfl)
  refine ⟨hs, hM1.ag h2 (List.all_eq_true.mpr (fun q c => decide_eq_true (by have := of_decide_eq_true (List.all_eq_true.mp hq q c); omega))) hl, hX1.ag (ps := qs ++ [46]) (ks := []) ⟨fun q a b => h2.1 q (fun e => b (by simp [e])) (fun c => b (by simp [c])), fun k _ => ?_⟩ (List.all_eq_true.mpr (fun q c => decide_eq_true (by
    rcases List.mem_append.mp c with c | c
    · have := of_decide_eq_true (List.all_eq_true.mp hq q c); omega
    · have : q = 46 := by simpa using c
      omega))) (by rfl)⟩
  rw [h2.1 0 (by omega) (fun c => by have := of_decide_eq_true (List.all_eq_true.mp hq 0 c); omega)]
def GP : List Nat := [20, 21, 22, 23, 24, 26, 27, 28, 29, 30, 31]
theorem GO.ag {n : Nat} {D E : zM} (hn : n < 5) (h : GO n D E) : z_ag 0 GP [] D E := ⟨fun q _ h2 => by
  have h3 : q ≠ 20 + n ∧ q ≠ 26 + n ∧ q ≠ 31 := by
    refine ⟨fun e => h2 ?_, fun e => h2 ?_, fun e => h2 ?_⟩ <;> (subst e; simp [GP]; try omega)
  exact h.1 q h3.1 h3.2.1 h3.2.2, fun k _ => by rw [h.1 0 (by omega) (by omega) (by omega)]⟩
theorem zI.M {D E : zM} {s : zA} {ps ks : List Nat} (h : IM D s) (h1 : z_ag 0 ps ks D E) (hp : ps.all (fun q => decide (q < 46)) = true) : IM E s := by
  refine h.ag (ps := ps ++ [0]) (ks := []) ⟨fun q a b => h1.1 q (fun e => b (by simp [e])) (fun c => b (by simp [c])), fun k _ => ?_⟩ (List.all_eq_true.mpr (fun q c => decide_eq_true ?_)) (by rfl)
  · rw [h1.1 46 (by omega) (fun c => by have := of_decide_eq_true (List.all_eq_true.mp hp 46 c); omega)]
  · rcases List.mem_append.mp c with c | c
    · have := of_decide_eq_true (List.all_eq_true.mp hp q c); omega
    · have : q = 0 := by simpa using c
      omega
set_option maxRecDepth 20000 in
theorem J_far {D : zM} {s : zA} (h : zI D s) (x y z : Int32) : z_Ci mX3_far [.ref 0, .int x, .int y, .int z] D (zJ mX4_far [.ref 46, .int x, .int y, .int z]) := by
  obtain ⟨hs, hM, hX⟩ := id h
  have h5 := hs.2.1
  have cX : z_nm y (D 0 7) ↔ vp_in y (s 0 1) := by rw [hX.2.1]; exact z_nm_in (by omega)
  have cM : z_wi y 0 (D 46 5 - 1) ↔ vp_in y (s 0 1) := by rw [hM.2.1]; exact z_wi_in (by omega)
  have f1 : ¬ (vp_in x 10 ∧ vp_in y (s 0 1)) → zJ mX4_far [.ref 46, .int x, .int y, .int z] (-1) D := fun hn => bX4_far_0 (fun a b _ => absurd ⟨a, cM.mp b⟩ hn) (fun a b _ => absurd ⟨a, cM.mp b⟩ hn) (fun _ _ => ⟨rfl, s, h⟩) (fun _ => ⟨rfl, s, h⟩)
  have f2 : vp_in x 10 → vp_in y (s 0 1) → ¬ z_wi z 0 1 → zJ mX4_far [.ref 46, .int x, .int y, .int z] (-2) D := fun a b c => bX4_far_0 (fun _ _ q => absurd q c) (fun _ _ _ => ⟨rfl, s, h⟩) (fun _ q => absurd (cM.mpr b) q) (fun q => absurd a q)
  refine bX3_far_0 (fun _ b _ _ => z_in_mono (cX.mp b) h5) (fun a b c => f2 a (cX.mp b) (fun q => (z_1_wi.mpr q).1 c)) (fun a b c d => ?_) (fun a b c d => f2 a (cX.mp b) (fun q => d (z_1_wi.mpr q).2)) (fun a b => f1 (fun q => b (cX.mpr q.2))) (fun a => f1 (fun q => a q.1))
  have b' := cX.mp b
  have hz := z_1_wi.mp ⟨c, d⟩
  obtain ⟨p, hp, rfl, hp2⟩ := z_inN a
  obtain ⟨n, hn, rfl, hn2⟩ := z_inN b'
  have ep : (nI p).toNatClampNeg = p := nI_clamp hp2
  have en : (nI n).toNatClampNeg = n := nI_clamp hn2
  rw [en, hX.2.2.2.2.2.1 n hn]
  have hf := farF_bdd hs (s 5 n)
  have hfp := hf p
  refine sX3_far_44 (uX2_draw hX hs hn) (fun E hE => ?_)
  obtain ⟨⟨g1, g2, g3⟩, hG⟩ := hE
  have hag := hG.ag (by omega)
  have hME := zI.M hM hag (by decide)
  have cM2 : z_wi (nI n) 0 (E 46 5 - 1) := by rw [hME.2.1]; exact (z_wi_in (by omega)).mpr b'
  have begin : ∀ {r : Int32}, (∀ F, FA F (farF s (s 5 n)) → IM F s → zI F s → z_Ok mX4_far 34 [some (.ref 46), some (.int (nI p)), some (.int (nI n)), some (.int z)] [] F (z_pi (fun r2 D2 => r2 = r ∧ ∃ s, zI D2 s))) → zJ mX4_far [.ref 46, .int (nI p), .int (nI n), .int z] r E := fun k => bX4_far_0 (fun _ _ _ => sX4_far_31 (uX4_findFar hME hs hn) (fun F hF => k F hF.1 (hME.ag hF.2 (by decide) (by decide)) (h.after hag hF.2 (by decide) (by decide) (by decide) (by decide)))) (fun _ _ q => absurd hz q) (fun _ q => absurd cM2 q) (fun q => absurd a q)
  refine bX3_far_47 (fun _ => vp_in_nI (by omega) (by omega)) (fun _ => a) (fun _ => vp_in_nI (by omega) (by omega)) (fun _ => a) (fun q => ?_) (fun q => ?_)
  · rw [en, ep, g2 p hp]
    have hz1 : z = 1 := (z_wi_1.mp hz).resolve_left q
    refine begin (fun F hF hMF hzF => bX4_far_34 (fun q => absurd hz1 q) (fun q => absurd hz1 q) (fun q => absurd hz1 q) (fun _ => ?_))
    exact sX4_far_41 (uX4_bestAt hMF hs hF (fun p => hf.le (by omega) p) hp) (fun r D1 hr => bX4_far_44 ⟨hr.2, s, by rw [hr.1]; exact hzF⟩)
  · rw [en, ep, g1 p hp]
    have hz1 : ¬ z = 1 := by rw [q]; decide
    have i1 : ∀ F : zM, FA F (farF s (s 5 n)) → (100000 ≤ F 53 (nI p).toNatClampNeg ↔ farF s (s 5 n) p = 100000) := fun F hF => by
      rw [ep, hF p hp, show (100000 : Int32) = nI 100000 from rfl, nI_leI (by omega) (by omega)]
      omega
    refine begin (fun F hF hMF hzF => bX4_far_34 (fun _ => a) (fun _ w => ⟨?_, s, hzF⟩) (fun _ w => ⟨?_, s, hzF⟩) (fun q => absurd q hz1))
    · rw [(i1 F hF).mp w]; rfl
    · rw [ep, hF p hp, fI_n (fun e => w ((i1 F hF).mpr e))]
