/-! mend side by side -/
theorem z_wi_2 {x : Int32} : (¬ x < 0 ∧ x ≤ 2) ↔ z_wi x 0 2 := by
  unfold z_wi
  rw [Int32.not_lt]
theorem z_wi2 {x : Int32} : z_wi x 0 2 ↔ (x = 0 ∨ x = 1 ∨ x = 2) := by
  unfold z_wi
  rw [Int32.le_iff_toInt_le, Int32.le_iff_toInt_le, ← Int32.toInt_inj, ← Int32.toInt_inj, ← Int32.toInt_inj, show (0 : Int32).toInt = 0 by decide, show (1 : Int32).toInt = 1 by decide, show (2 : Int32).toInt = 2 by decide]
  omega
set_option maxRecDepth 20000 in
theorem J_mend {D : zM} {s : zA} (h : zI D s) (x : Int32) : z_Ci mX3_mend [.ref 0, .int x] D (zJ mX4_mend [.ref 46, .int x]) := by
  obtain ⟨hs, hM, hX⟩ := id h
  have fail : ¬ z_wi x 0 2 → zJ mX4_mend [.ref 46, .int x] (-2) D := fun c => bX4_mend_0 (fun q => absurd q c) (fun _ => ⟨rfl, s, h⟩)
  refine bX3_mend_0 (fun a => fail (fun q => (z_wi_2.mpr q).1 a)) (fun a b => ?_) (fun a b => fail (fun q => b (z_wi_2.mpr q).2))
  have hw := z_wi_2.mp ⟨a, b⟩
  have hx := z_wi2.mp hw
  refine sX3_mend_13 (uX3_findMend hX hs) (fun E hE => bX3_mend_16 ?_)
  obtain ⟨⟨o, hO, hMX⟩, hag⟩ := hE
  have hME := zI.M hM hag (by decide)
  have fin : zJ mX4_mend [.ref 46, .int x] (meA s (endsN s 0) x o) E := by
    refine bX4_mend_0 (fun _ => ?_) (fun q => absurd hw q)
    refine sX4_mend_14 (uX4_ends hME hs (how := 0) (by omega)) (fun r F hF => bX4_mend_17 ?_)
    obtain ⟨rfl, hagF⟩ := hF
    have hMF := hME.ag hagF (by decide) (by decide)
    refine uX4_mendL hMF hs hx hO (fun G hG => ⟨rfl, s, ?_⟩)
    exact h.after hag ((hagF.mono (ps' := [53, 54, 55, 56]) (ks' := [13, 14, 15]) (by decide) (by decide)).trans hG) (by decide) (by decide) (by decide) (by decide)
  rcases hx with rfl | rfl | rfl
  · refine z_look (off := 27) 44 dX3_mend_17 (by decide) (by decide) (by decide) (bX3_mend_44 ?_)
    have e : E 0 10 = meA s (endsN s 0) 0 o := by
      cases o with
      | none => exact hMX.1
      | some y => exact hMX.1
    rw [e]; exact fin
  · refine z_look (off := 32) 49 dX3_mend_17 (by decide) (by decide) (by decide) (bX3_mend_49 ?_)
    have e : E 0 11 = meA s (endsN s 0) 1 o := by
      cases o with
      | none => exact hMX.2.1
      | some y => exact hMX.2.1
    rw [e]; exact fin
  · refine z_look (off := 37) 54 dX3_mend_17 (by decide) (by decide) (by decide) (bX3_mend_54 ?_)
    have e : E 0 12 = meA s (endsN s 0) 2 o := by
      cases o with
      | none => exact hMX.2.2
      | some y => exact hMX.2.2
    rw [e]; exact fin
