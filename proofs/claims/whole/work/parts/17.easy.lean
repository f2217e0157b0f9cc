/-! THE EASY CALLS, class and reference side by side -/
theorem z_nm_in {x : Int32} {n : Nat} (h : n < 2 ^ 31) : z_nm x (nI n) ↔ vp_in x n := by
  unfold z_nm
  rw [vp_in_iff, Int32.le_iff_toInt_le, Int32.lt_iff_toInt_lt, nI_toInt h, show (0 : Int32).toInt = 0 by decide]
theorem z_wi_in {x : Int32} {n : Nat} (h : n < 2 ^ 31) : z_wi x 0 (nI n - 1) ↔ vp_in x n := by
  unfold z_wi
  rw [vp_in_iff, Int32.le_iff_toInt_le, Int32.le_iff_toInt_le, show (0 : Int32).toInt = 0 by decide]
  cases n with
  | zero =>
    rw [show (nI 0 - 1).toInt = -1 by decide]
    omega
  | succ m =>
    rw [nI_pred, nI_toInt (by omega)]
    omega
theorem z_wi_999 {x : Int32} : z_wi x 0 999 ↔ vp_in x 1000 := by
  unfold z_wi
  rw [vp_in_iff, Int32.le_iff_toInt_le, Int32.le_iff_toInt_le, show (0 : Int32).toInt = 0 by decide, show (999 : Int32).toInt = 999 by decide]
  omega
theorem z_999_in {x : Int32} : (¬ x < 0 ∧ x ≤ 999) ↔ vp_in x 1000 := by
  rw [vp_in_iff, Int32.lt_iff_toInt_lt, Int32.le_iff_toInt_le, show (0 : Int32).toInt = 0 by decide, show (999 : Int32).toInt = 999 by decide]
  omega
theorem z_5pn (p n : Nat) : (5 : Int32) * nI p + nI n = nI (5 * p + n) := by rw [n5, pk_mul, nI_add]
theorem oI_ne9 {o : Option Nat} (h : ∀ k, o = some k → k < 2 ^ 31) : oI o = -9 ↔ o = none := by
  cases o with
  | none => simp [oI]
  | some k =>
    have := nI_ne9 (h k rfl)
    simp [oI, this]
theorem aO_lt {v k : Nat} (h : aO v = some k) : v = k + 1 := by
  cases v with
  | zero => cases h
  | succ q =>
    have : q = k := Option.some.inj h
    omega
theorem obt_same {s t : zA} (h0 : t 0 0 = s 0 0) (h1 : t 1 = s 1) (h2 : t 2 = s 2) (h4 : t 4 = s 4) : obt t = obt s := by
  funext a b
  have e : mt t a b = mt s a b := by
    funext k
    unfold mt
    rw [h1, h2]
  unfold obt wbt
  rw [e, h0, h4]
theorem oa_same {s t : zA} (h0 : t 0 0 = s 0 0) (h1 : t 1 = s 1) (h2 : t 2 = s 2) (h4 : t 4 = s 4) : oa t = oa s := by
  funext a b
  unfold oa
  rw [obt_same h0 h1 h2 h4]
theorem ol_same {s t : zA} (h0 : t 0 0 = s 0 0) (h1 : t 1 = s 1) (h2 : t 2 = s 2) (h3 : t 3 = s 3) (h4 : t 4 = s 4) : ol t = ol s := by
  funext a b
  unfold ol
  rw [obt_same h0 h1 h2 h4, h3]
def IXt (D : zM) (s : zA) : Prop := (∀ p, p < 10 → ∀ n, n < 5 → D (40 + n) p = oI (aO (s 6 (5 * p + n)))) ∧ (∀ p, p < 10 → D 6 p = nI (bm (oa s p) 10)) ∧ ∀ p, p < 10 → ∀ q, q < 10 → D (8 + p) q = nI (ol s p q)
theorem IXt_keep {D E : zM} {s t : zA} (h : IXt D s) (hD : ∀ q, q = 6 ∨ (8 ≤ q ∧ q < 18) ∨ (40 ≤ q ∧ q < 45) → E q = D q) (h0 : t 0 0 = s 0 0) (h1 : t 1 = s 1) (h2 : t 2 = s 2) (h3 : t 3 = s 3) (h4 : t 4 = s 4) (h6 : t 6 = s 6) : IXt E t := by
  refine ⟨fun p hp n hn => ?_, fun p hp => ?_, fun p hp q hq => ?_⟩
  · rw [hD _ (by omega), h6]; exact h.1 p hp n hn
  · rw [hD _ (by omega), oa_same h0 h1 h2 h4]; exact h.2.1 p hp
  · rw [hD _ (by omega), ol_same h0 h1 h2 h3 h4]; exact h.2.2 p hp q hq
set_option maxRecDepth 20000 in
theorem J_name {D : zM} {s : zA} (h : zI D s) (x : Int32) : z_Ci mX3_name [.ref 0, .int x] D (zJ mX4_name [.ref 46, .int x]) := by
  obtain ⟨hs, hM, hX⟩ := id h
  have eX := hX.2.1
  have eM := hM.2.1
  have h5 := hs.2.1
  have c1 : D 0 7 < 5 ↔ s 0 1 < 5 := by rw [eX, n5, nI_ltI (by omega) (by omega)]
  have c2 : D 46 5 = 5 ↔ s 0 1 = 5 := by rw [eM, n5, nI_eq (by omega) (by omega)]
  refine bX3_name_0 (fun _ a => ?_) (fun a b => ?_) (fun a b => ?_) (fun a => ?_)
  · rw [eX]; exact vp_in_nI (c1.mp a) (by omega)
  · obtain ⟨p, hp, rfl, -⟩ := z_inN a
    have hb := c1.mp b
    have e0 : (D 0 7).toNatClampNeg = s 0 1 := by rw [eX]; exact nI_clamp (by omega)
    have e1 : (D 46 5).toNatClampNeg = s 0 1 := by rw [eM]; exact nI_clamp (by omega)
    rw [e0]
    refine bX4_name_0 (fun _ _ => ?_) (fun _ _ => ?_) (fun _ q => absurd (c2.mp q) (by omega)) (fun q => absurd a q)
    · show vp_in (D 46 5) 5
      rw [eM]; exact vp_in_nI hb (by omega)
    · refine ⟨?_, a_up (a_up s 5 (s 0 1) p) 0 1 (s 0 1 + 1), ⟨hs.1, hb, hs.2.2.1, hs.2.2.2.1, hs.2.2.2.2.1, fun n hn => ?_, hs.2.2.2.2.2.2⟩, ⟨hM.1, ?_, hM.2.2.1, hM.2.2.2.1, hM.2.2.2.2.1, fun n hn => ?_, hM.2.2.2.2.2.2⟩, ⟨hX.1, ?_, hX.2.2.1, hX.2.2.2.1, hX.2.2.2.2.1, fun n hn => ?_, IXt_keep hX.2.2.2.2.2.2 (fun q hq => by rw [z_up_ne (by omega), z_up_ne (by omega), z_up_ne (by omega), z_up_ne (by omega)]) rfl rfl rfl rfl rfl rfl⟩⟩
      · show D 46 5 + 1 - 1 = D 0 7 + 1 - 1
        rw [eM, eX]
      · have hn' : n < s 0 1 + 1 := hn
        show (a_up s 5 (s 0 1) p) 5 n < 10
        by_cases e : n = s 0 1
        · rw [e, a_up_eq]; exact hp
        · rw [a_up_k e]; exact hs.2.2.2.2.2.1 n (by omega)
      · show D 46 5 + 1 = nI (s 0 1 + 1)
        rw [eM, nI_succ]
      · have hn' : n < s 0 1 + 1 := hn
        show z_up D 51 (D 46 5).toNatClampNeg (nI p) 51 n = nI ((a_up s 5 (s 0 1) p) 5 n)
        rw [e1]
        by_cases e : n = s 0 1
        · rw [e, a_up_eq, z_up_eq]
        · rw [a_up_k e, z_up_k e]; exact hM.2.2.2.2.2.1 n (by omega)
      · show D 0 7 + 1 = nI (s 0 1 + 1)
        rw [eX, nI_succ]
      · have hn' : n < s 0 1 + 1 := hn
        show z_up D 38 (s 0 1) (nI p) 38 n = nI ((a_up s 5 (s 0 1) p) 5 n)
        by_cases e : n = s 0 1
        · rw [e, a_up_eq, z_up_eq]
        · rw [a_up_k e, z_up_k e]; exact hX.2.2.2.2.2.1 n (by omega)
  · have hb : ¬ s 0 1 < 5 := fun q => b (c1.mpr q)
    exact bX4_name_0 (fun _ q => absurd (c2.mpr (by omega)) q) (fun _ q => absurd (c2.mpr (by omega)) q) (fun _ _ => ⟨rfl, s, h⟩) (fun q => absurd a q)
  · exact bX4_name_0 (fun q _ => absurd q a) (fun q _ => absurd q a) (fun q _ => absurd q a) (fun _ => ⟨rfl, s, h⟩)
set_option maxRecDepth 20000 in
theorem J_moves {D : zM} {s : zA} (h : zI D s) (x y : Int32) : z_Ci mX3_moves [.ref 0, .int x, .int y] D (zJ mX4_moves [.ref 46, .int x, .int y]) := by
  obtain ⟨hs, hM, hX⟩ := id h
  have h5 := hs.2.1
  have cX : z_nm x (D 0 7) ↔ vp_in x (s 0 1) := by rw [hX.2.1]; exact z_nm_in (by omega)
  have cM : z_wi x 0 (D 46 5 - 1) ↔ vp_in x (s 0 1) := by rw [hM.2.1]; exact z_wi_in (by omega)
  have fail : ¬ (vp_in x (s 0 1) ∧ vp_in y 10) → zJ mX4_moves [.ref 46, .int x, .int y] (-1) D := fun hn => bX4_moves_0 (fun a b => absurd ⟨cM.mp a, b⟩ hn) (fun a b => absurd ⟨cM.mp a, b⟩ hn) (fun _ _ => ⟨rfl, s, h⟩) (fun _ => ⟨rfl, s, h⟩)
  refine bX3_moves_0 (fun a _ => z_in_mono (cX.mp a) h5) (fun a b => ?_) (fun a b => fail (fun q => b q.2)) (fun a => fail (fun q => a (cX.mpr q.1)))
  have a' := cX.mp a
  obtain ⟨n, hn, rfl, hn2⟩ := z_inN a'
  obtain ⟨p, hp, rfl, -⟩ := z_inN b
  have e0 : (nI n).toNatClampNeg = n := nI_clamp hn2
  rw [e0]
  refine bX4_moves_0 (fun _ _ => z_in_mono a' h5) (fun _ _ => ?_) (fun _ q => absurd b q) (fun q => absurd (cM.mpr a') q)
  rw [e0]
  refine ⟨?_, a_up s 5 n p, ⟨hs.1, h5, hs.2.2.1, hs.2.2.2.1, hs.2.2.2.2.1, fun m hm => ?_, hs.2.2.2.2.2.2⟩, ⟨hM.1, hM.2.1, hM.2.2.1, hM.2.2.2.1, hM.2.2.2.2.1, fun m hm => ?_, hM.2.2.2.2.2.2⟩, ⟨hX.1, hX.2.1, hX.2.2.1, hX.2.2.2.1, hX.2.2.2.2.1, fun m hm => ?_, IXt_keep hX.2.2.2.2.2.2 (fun q hq => by rw [z_up_ne (by omega), z_up_ne (by omega)]) rfl rfl rfl rfl rfl rfl⟩⟩
  · show D 51 n = D 38 n
    rw [hM.2.2.2.2.2.1 n hn, hX.2.2.2.2.2.1 n hn]
  · by_cases e : m = n
    · rw [e, a_up_eq]; exact hp
    · rw [a_up_k e]; exact hs.2.2.2.2.2.1 m hm
  · show z_up D 51 n (nI p) 51 m = _
    by_cases e : m = n
    · rw [e, a_up_eq, z_up_eq]
    · rw [a_up_k e, z_up_k e]; exact hM.2.2.2.2.2.1 m hm
  · show z_up D 38 n (nI p) 38 m = _
    by_cases e : m = n
    · rw [e, a_up_eq, z_up_eq]
    · rw [a_up_k e, z_up_k e]; exact hX.2.2.2.2.2.1 m hm
set_option maxRecDepth 20000 in
theorem J_detour {D : zM} {s : zA} (h : zI D s) (x : Int32) : z_Ci mX3_detour [.ref 0, .int x] D (zJ mX4_detour [.ref 46, .int x]) := by
  obtain ⟨hs, hM, hX⟩ := id h
  have fail : ¬ vp_in x 1000 → zJ mX4_detour [.ref 46, .int x] (-2) D := fun hn => bX4_detour_0 (fun a => absurd (z_wi_999.mp a) hn) (fun _ => ⟨rfl, s, h⟩)
  refine bX3_detour_0 (fun a => fail (fun q => (z_999_in.mpr q).1 a)) (fun a b => ?_) (fun a b => fail (fun q => b (z_999_in.mpr q).2))
  have c := z_999_in.mp ⟨a, b⟩
  obtain ⟨d, hd, rfl, -⟩ := z_inN c
  refine bX4_detour_0 (fun _ => ?_) (fun q => absurd (z_wi_999.mpr c) q)
  refine ⟨?_, a_up s 0 3 d, ⟨hs.1, hs.2.1, hs.2.2.1, ?_, hs.2.2.2.2.1, hs.2.2.2.2.2.1, hs.2.2.2.2.2.2⟩, ⟨hM.1, hM.2.1, hM.2.2.1, ?_, hM.2.2.2.2.1, hM.2.2.2.2.2.1, hM.2.2.2.2.2.2⟩, ⟨hX.1, hX.2.1, hX.2.2.1, ?_, hX.2.2.2.2.1, hX.2.2.2.2.2.1, IXt_keep hX.2.2.2.2.2.2 (fun q hq => by rw [z_up_ne (by omega), z_up_ne (by omega)]) rfl rfl rfl rfl rfl rfl⟩⟩
  · show D 46 8 = D 0 9
    rw [hM.2.2.2.1, hX.2.2.2.1]
  · show d ≤ 999
    omega
  · rfl
  · rfl
set_option maxRecDepth 20000 in
theorem J_entrance {D : zM} {s : zA} (h : zI D s) (x y : Int32) (hy : y = 0 ∨ y = 1) : z_Ci mX3_entrance [.ref 0, .int x, .int y] D (zJ mX4_entrance [.ref 46, .int x, .int y]) := by
  obtain ⟨hs, hM, hX⟩ := id h
  have he : D 46 7 = D 0 8 := by rw [hM.2.2.1, hX.2.2.1]
  have key : vp_in x 10 → zI (z_up (z_up D 0 8 (D 0 8 ^^^ ((1 : Int32) <<< (x &&& 31)))) 46 7 (D 46 7 ^^^ ((1 : Int32) <<< (x &&& 31)))) (a_up s 0 2 (s 0 2 ^^^ 2 ^ x.toNatClampNeg)) := by
    intro c
    obtain ⟨p, hp, rfl, hp2⟩ := z_inN c
    have e0 : (nI p).toNatClampNeg = p := nI_clamp hp2
    rw [e0]
    refine ⟨⟨hs.1, hs.2.1, ?_, hs.2.2.2.1, hs.2.2.2.2.1, hs.2.2.2.2.2.1, hs.2.2.2.2.2.2⟩, ⟨hM.1, hM.2.1, ?_, hM.2.2.2.1, hM.2.2.2.2.1, hM.2.2.2.2.2.1, hM.2.2.2.2.2.2⟩, ⟨hX.1, hX.2.1, ?_, hX.2.2.2.1, hX.2.2.2.2.1, hX.2.2.2.2.2.1, IXt_keep hX.2.2.2.2.2.2 (fun q hq => by rw [z_up_ne (by omega), z_up_ne (by omega)]) rfl rfl rfl rfl rfl rfl⟩⟩
    · show s 0 2 ^^^ 2 ^ p < 2 ^ 10
      exact Nat.xor_lt_two_pow hs.2.2.1 (Nat.pow_lt_pow_right (by omega) hp)
    · show D 46 7 ^^^ ((1 : Int32) <<< (nI p &&& 31)) = nI (s 0 2 ^^^ 2 ^ p)
      rw [nb_sh1 p hp, hM.2.2.1, nb_xor]
    · show D 0 8 ^^^ ((1 : Int32) <<< (nI p &&& 31)) = nI (s 0 2 ^^^ 2 ^ p)
      rw [nb_sh1 p hp, hX.2.2.1, nb_xor]
  refine bX3_entrance_0 (fun a b c => ?_) (fun a b c => ?_) (fun a b c => ?_) (fun a b c => ?_) (fun a => ?_)
  · exact bX4_entrance_0 (fun _ _ _ => ⟨rfl, _, key a⟩) (fun _ _ q => absurd q c) (fun _ q _ => absurd (show zb (D 46 7) x by rw [he]; exact b) q) (fun _ q _ => absurd (show zb (D 46 7) x by rw [he]; exact b) q) (fun q => absurd a q)
  · exact bX4_entrance_0 (fun _ _ q => absurd c q) (fun _ _ _ => ⟨rfl, s, h⟩) (fun _ q _ => absurd (show zb (D 46 7) x by rw [he]; exact b) q) (fun _ q _ => absurd (show zb (D 46 7) x by rw [he]; exact b) q) (fun q => absurd a q)
  · exact bX4_entrance_0 (fun _ q _ => absurd (show zb (D 0 8) x by rw [← he]; exact q) b) (fun _ q _ => absurd (show zb (D 0 8) x by rw [← he]; exact q) b) (fun _ _ _ => ⟨rfl, _, key a⟩) (fun _ _ q => absurd q c) (fun q => absurd a q)
  · exact bX4_entrance_0 (fun _ q _ => absurd (show zb (D 0 8) x by rw [← he]; exact q) b) (fun _ q _ => absurd (show zb (D 0 8) x by rw [← he]; exact q) b) (fun _ _ q => absurd c q) (fun _ _ _ => ⟨rfl, s, h⟩) (fun q => absurd a q)
  · exact bX4_entrance_0 (fun q _ _ => absurd q a) (fun q _ _ => absurd q a) (fun q _ _ => absurd q a) (fun q _ _ => absurd q a) (fun _ => ⟨rfl, s, h⟩)
set_option maxRecDepth 20000 in
theorem J_arrow {D : zM} {s : zA} (h : zI D s) (x y : Int32) : z_Ci mX3_arrow [.ref 0, .int x, .int y] D (zJ mX4_arrow [.ref 46, .int x, .int y]) := by
  obtain ⟨hs, hM, hX⟩ := id h
  have h5 := hs.2.1
  have cX : z_nm y (D 0 7) ↔ vp_in y (s 0 1) := by rw [hX.2.1]; exact z_nm_in (by omega)
  have cM : z_wi y 0 (D 46 5 - 1) ↔ vp_in y (s 0 1) := by rw [hM.2.1]; exact z_wi_in (by omega)
  have fail : ¬ (vp_in x 10 ∧ vp_in y (s 0 1)) → zJ mX4_arrow [.ref 46, .int x, .int y] (-1) D := fun hn => bX4_arrow_0 (fun a b => absurd ⟨a, cM.mp b⟩ hn) (fun a b => absurd ⟨a, cM.mp b⟩ hn) (fun _ _ => ⟨rfl, s, h⟩) (fun _ => ⟨rfl, s, h⟩)
  refine bX3_arrow_0 (fun _ b => z_in_mono (cX.mp b) h5) (fun a b => ?_) (fun a b => fail (fun q => b (cX.mpr q.2))) (fun a => fail (fun q => a q.1))
  have b' := cX.mp b
  obtain ⟨p, hp, rfl, hp2⟩ := z_inN a
  obtain ⟨n, hn, rfl, hn2⟩ := z_inN b'
  rw [nI_clamp hp2, nI_clamp hn2]
  refine bX4_arrow_0 (fun _ _ => ?_) (fun _ _ => ?_) (fun _ q => absurd (cM.mpr b') q) (fun q => absurd a q)
  · rw [z_5pn]; exact vp_in_nI (by omega) (by omega)
  · rw [z_5pn, nI_clamp (by omega)]
    exact ⟨by rw [hM.2.2.2.2.2.2 _ (by omega), hX.2.2.2.2.2.2.1 p hp n (by omega)], s, h⟩
