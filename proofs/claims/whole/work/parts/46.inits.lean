set_option maxRecDepth 20000 in
theorem nAI : Cond.arrayClass .int ∈ z_T := z_mem 97 rfl rfl
set_option maxRecDepth 20000 in
theorem nAZ : Cond.arrayClass .boolean ∈ z_T := z_mem 98 rfl rfl
set_option maxRecDepth 20000 in
theorem nOI : Cond.instanceMethod Lib.objectInit ∈ z_T ∧ Cond.code Lib.objectInit ⟨#[0xb1]⟩ 1 none ∈ z_T := ⟨z_mem 51 rfl rfl, z_mem 52 rfl rfl⟩
set_option maxRecDepth 20000 in
theorem nnRL_7 : n_N RL 7 3 13 [.null, .null, .null, .null, .null, .null, .null, .int 0, .int 0, .int 0, .int 0, .int 0, .int 0] := ⟨_, _, tyX3, rfl, wsX3, tyX3_ok, z_mem 45 rfl rfl, z_mem 46 rfl rfl, z_mem 36 rfl rfl, fun j hj => by rcases (show j = 0 ∨ j = 1 ∨ j = 2 ∨ j = 3 ∨ j = 4 ∨ j = 5 ∨ j = 6 ∨ j = 7 ∨ j = 8 ∨ j = 9 ∨ j = 10 ∨ j = 11 ∨ j = 12 by omega) with rfl | rfl | rfl | rfl | rfl | rfl | rfl | rfl | rfl | rfl | rfl | rfl | rfl <;> rfl⟩
set_option maxRecDepth 20000 in
theorem niRL_9 : Cond.methodLink RL 9 yX3_init ∈ z_T ∧ Cond.instanceMethod yX3_init ∈ z_T := ⟨z_mem 47 rfl rfl, z_mem 48 rfl rfl⟩
set_option maxRecDepth 20000 in
theorem noRX3_3 : Cond.methodLink RX3 3 Lib.objectInit ∈ z_T ∧ Cond.instanceMethod Lib.objectInit ∈ z_T ∧ Cond.code Lib.objectInit ⟨#[0xb1]⟩ 1 none ∈ z_T := ⟨z_mem 50 rfl rfl, nOI.1, nOI.2⟩
set_option maxRecDepth 20000 in
theorem nnRX3_9 : n_N RX3 9 0 7 [.null, .null, .null, .null, .null, .null, .int 0] := ⟨_, _, tyX0, rfl, wsX0, tyX0_ok, z_mem 53 rfl rfl, z_mem 54 rfl rfl, z_mem 37 rfl rfl, fun j hj => by rcases (show j = 0 ∨ j = 1 ∨ j = 2 ∨ j = 3 ∨ j = 4 ∨ j = 5 ∨ j = 6 by omega) with rfl | rfl | rfl | rfl | rfl | rfl | rfl <;> rfl⟩
set_option maxRecDepth 20000 in
theorem niRX3_11 : Cond.methodLink RX3 11 yX0_init ∈ z_T ∧ Cond.instanceMethod yX0_init ∈ z_T := ⟨z_mem 55 rfl rfl, z_mem 56 rfl rfl⟩
set_option maxRecDepth 20000 in
theorem noRX0_3 : Cond.methodLink RX0 3 Lib.objectInit ∈ z_T ∧ Cond.instanceMethod Lib.objectInit ∈ z_T ∧ Cond.code Lib.objectInit ⟨#[0xb1]⟩ 1 none ∈ z_T := ⟨z_mem 58 rfl rfl, nOI.1, nOI.2⟩
set_option maxRecDepth 20000 in
theorem nmRX0_28 : Cond.classLink RX0 28 ("[" ++ (FieldType.array .int).toString) ∈ z_T := by
  rw [show ("[" ++ (FieldType.array .int).toString) = "[[I" by decide]
  exact z_mem 59 rfl rfl
set_option maxRecDepth 20000 in
theorem nnRX3_16 : n_N RX3 16 2 3 [.null, .null, .null] := ⟨_, _, tyX2, rfl, wsX2, tyX2_ok, z_mem 99 rfl rfl, z_mem 100 rfl rfl, z_mem 38 rfl rfl, fun j hj => by rcases (show j = 0 ∨ j = 1 ∨ j = 2 by omega) with rfl | rfl | rfl <;> rfl⟩
set_option maxRecDepth 20000 in
theorem niRX3_18 : Cond.methodLink RX3 18 yX2_init ∈ z_T ∧ Cond.instanceMethod yX2_init ∈ z_T := ⟨z_mem 101 rfl rfl, z_mem 102 rfl rfl⟩
set_option maxRecDepth 20000 in
theorem noRX2_3 : Cond.methodLink RX2 3 Lib.objectInit ∈ z_T ∧ Cond.instanceMethod Lib.objectInit ∈ z_T ∧ Cond.code Lib.objectInit ⟨#[0xb1]⟩ 1 none ∈ z_T := ⟨z_mem 104 rfl rfl, nOI.1, nOI.2⟩
set_option maxRecDepth 20000 in
theorem nmRX2_9 : Cond.classLink RX2 9 ("[" ++ (FieldType.array .int).toString) ∈ z_T := by
  rw [show ("[" ++ (FieldType.array .int).toString) = "[[I" by decide]
  exact z_mem 105 rfl rfl
set_option maxRecDepth 20000 in
theorem nnRX3_23 : n_N RX3 23 1 5 [.null, .null, .int 0, .int 0, .int 0] := ⟨_, _, tyX1, rfl, wsX1, tyX1_ok, z_mem 119 rfl rfl, z_mem 120 rfl rfl, z_mem 39 rfl rfl, fun j hj => by rcases (show j = 0 ∨ j = 1 ∨ j = 2 ∨ j = 3 ∨ j = 4 by omega) with rfl | rfl | rfl | rfl | rfl <;> rfl⟩
set_option maxRecDepth 20000 in
theorem niRX3_25 : Cond.methodLink RX3 25 yX1_init ∈ z_T ∧ Cond.instanceMethod yX1_init ∈ z_T := ⟨z_mem 121 rfl rfl, z_mem 122 rfl rfl⟩
set_option maxRecDepth 20000 in
theorem noRX1_3 : Cond.methodLink RX1 3 Lib.objectInit ∈ z_T ∧ Cond.instanceMethod Lib.objectInit ∈ z_T ∧ Cond.code Lib.objectInit ⟨#[0xb1]⟩ 1 none ∈ z_T := ⟨z_mem 124 rfl rfl, nOI.1, nOI.2⟩
set_option maxRecDepth 20000 in
theorem nmRX3_37 : Cond.classLink RX3 37 ("[" ++ (FieldType.array .int).toString) ∈ z_T := by
  rw [show ("[" ++ (FieldType.array .int).toString) = "[[I" by decide]
  exact z_mem 144 rfl rfl
set_option maxRecDepth 20000 in
theorem nnRL_10 : n_N RL 10 4 21 [.int 0, .null, .null, .null, .null, .int 0, .null, .int 0, .int 0, .null, .null, .null, .null, .int 0, .int 0, .int 0, .null, .int 0, .int 0, .null, .null] := ⟨_, _, tyX4, rfl, wsX4, tyX4_ok, z_mem 406 rfl rfl, z_mem 407 rfl rfl, z_mem 41 rfl rfl, fun j hj => by rcases (show j = 0 ∨ j = 1 ∨ j = 2 ∨ j = 3 ∨ j = 4 ∨ j = 5 ∨ j = 6 ∨ j = 7 ∨ j = 8 ∨ j = 9 ∨ j = 10 ∨ j = 11 ∨ j = 12 ∨ j = 13 ∨ j = 14 ∨ j = 15 ∨ j = 16 ∨ j = 17 ∨ j = 18 ∨ j = 19 ∨ j = 20 by omega) with rfl | rfl | rfl | rfl | rfl | rfl | rfl | rfl | rfl | rfl | rfl | rfl | rfl | rfl | rfl | rfl | rfl | rfl | rfl | rfl | rfl <;> rfl⟩
set_option maxRecDepth 20000 in
theorem niRL_12 : Cond.methodLink RL 12 yX4_init ∈ z_T ∧ Cond.instanceMethod yX4_init ∈ z_T := ⟨z_mem 408 rfl rfl, z_mem 409 rfl rfl⟩
set_option maxRecDepth 20000 in
theorem noRX4_1 : Cond.methodLink RX4 1 Lib.objectInit ∈ z_T ∧ Cond.instanceMethod Lib.objectInit ∈ z_T ∧ Cond.code Lib.objectInit ⟨#[0xb1]⟩ 1 none ∈ z_T := ⟨z_mem 411 rfl rfl, nOI.1, nOI.2⟩
set_option maxRecDepth 20000 in
theorem nfRX0_9 : n_F RX0 9 0 0 (.array .int) := ⟨_, _, _, tyX0, rfl, by decide, wsX0, z_mem 61 rfl rfl, tyX0_ok, nmX0, rfl, rfl, rfl⟩
set_option maxRecDepth 20000 in
theorem nfRX0_15 : n_F RX0 15 0 1 (.array .int) := ⟨_, _, _, tyX0, rfl, by decide, wsX0, z_mem 64 rfl rfl, tyX0_ok, nmX0, rfl, rfl, rfl⟩
set_option maxRecDepth 20000 in
theorem nfRX0_18 : n_F RX0 18 0 2 (.array .int) := ⟨_, _, _, tyX0, rfl, by decide, wsX0, z_mem 67 rfl rfl, tyX0_ok, nmX0, rfl, rfl, rfl⟩
set_option maxRecDepth 20000 in
theorem nfRX0_21 : n_F RX0 21 0 3 (.array .boolean) := ⟨_, _, _, tyX0, rfl, by decide, wsX0, z_mem 70 rfl rfl, tyX0_ok, nmX0, rfl, rfl, rfl⟩
set_option maxRecDepth 20000 in
theorem nfRX0_25 : n_F RX0 25 0 4 (.array .int) := ⟨_, _, _, tyX0, rfl, by decide, wsX0, z_mem 73 rfl rfl, tyX0_ok, nmX0, rfl, rfl, rfl⟩
set_option maxRecDepth 20000 in
theorem nfRX0_30 : n_F RX0 30 0 5 (.array (.array .int)) := ⟨_, _, _, tyX0, rfl, by decide, wsX0, z_mem 76 rfl rfl, tyX0_ok, nmX0, rfl, rfl, rfl⟩
set_option maxRecDepth 20000 in
theorem nfRX2_11 : n_F RX2 11 2 0 (.array (.array .int)) := ⟨_, _, _, tyX2, rfl, by decide, wsX2, z_mem 106 rfl rfl, tyX2_ok, nmX2, rfl, rfl, rfl⟩
set_option maxRecDepth 20000 in
theorem nfRX2_16 : n_F RX2 16 2 1 (.array (.array .int)) := ⟨_, _, _, tyX2, rfl, by decide, wsX2, z_mem 108 rfl rfl, tyX2_ok, nmX2, rfl, rfl, rfl⟩
set_option maxRecDepth 20000 in
theorem nfRX2_19 : n_F RX2 19 2 2 (.array .int) := ⟨_, _, _, tyX2, rfl, by decide, wsX2, z_mem 110 rfl rfl, tyX2_ok, nmX2, rfl, rfl, rfl⟩
set_option maxRecDepth 20000 in
theorem nfRX1_9 : n_F RX1 9 1 0 (.array .int) := ⟨_, _, _, tyX1, rfl, by decide, wsX1, z_mem 125 rfl rfl, tyX1_ok, nmX1, rfl, rfl, rfl⟩
set_option maxRecDepth 20000 in
theorem nfRX1_15 : n_F RX1 15 1 1 (.array .int) := ⟨_, _, _, tyX1, rfl, by decide, wsX1, z_mem 126 rfl rfl, tyX1_ok, nmX1, rfl, rfl, rfl⟩
set_option maxRecDepth 20000 in
theorem nfRX3_12 : n_F RX3 12 3 0 (.object "WaySigns$Building") := ⟨_, _, _, tyX3, rfl, by decide, wsX3, z_mem 148 rfl rfl, tyX3_ok, nmX3, rfl, rfl, rfl⟩
set_option maxRecDepth 20000 in
theorem nfRX3_19 : n_F RX3 19 3 1 (.object "WaySigns$Guide") := ⟨_, _, _, tyX3, rfl, by decide, wsX3, z_mem 149 rfl rfl, tyX3_ok, nmX3, rfl, rfl, rfl⟩
set_option maxRecDepth 20000 in
theorem nfRX3_26 : n_F RX3 26 3 2 (.object "WaySigns$Follower") := ⟨_, _, _, tyX3, rfl, by decide, wsX3, z_mem 150 rfl rfl, tyX3_ok, nmX3, rfl, rfl, rfl⟩
set_option maxRecDepth 20000 in
theorem nfRX3_30 : n_F RX3 30 3 3 (.object "WaySigns$Follower") := ⟨_, _, _, tyX3, rfl, by decide, wsX3, z_mem 151 rfl rfl, tyX3_ok, nmX3, rfl, rfl, rfl⟩
set_option maxRecDepth 20000 in
theorem nfRX3_33 : n_F RX3 33 3 4 (.array .int) := ⟨_, _, _, tyX3, rfl, by decide, wsX3, z_mem 152 rfl rfl, tyX3_ok, nmX3, rfl, rfl, rfl⟩
set_option maxRecDepth 20000 in
theorem nfRX3_39 : n_F RX3 39 3 5 (.array (.array .int)) := ⟨_, _, _, tyX3, rfl, by decide, wsX3, z_mem 153 rfl rfl, tyX3_ok, nmX3, rfl, rfl, rfl⟩
set_option maxRecDepth 20000 in
theorem nfRX3_48 : n_F RX3 48 3 6 (.array .int) := ⟨_, _, _, tyX3, rfl, by decide, wsX3, z_mem 154 rfl rfl, tyX3_ok, nmX3, rfl, rfl, rfl⟩
set_option maxRecDepth 20000 in
theorem nfRX4_7 : n_F RX4 7 4 1 (.array .int) := ⟨_, _, _, tyX4, rfl, by decide, wsX4, z_mem 413 rfl rfl, tyX4_ok, nmX4, rfl, rfl, rfl⟩
set_option maxRecDepth 20000 in
theorem nfRX4_13 : n_F RX4 13 4 2 (.array .int) := ⟨_, _, _, tyX4, rfl, by decide, wsX4, z_mem 414 rfl rfl, tyX4_ok, nmX4, rfl, rfl, rfl⟩
set_option maxRecDepth 20000 in
theorem nfRX4_16 : n_F RX4 16 4 3 (.array .int) := ⟨_, _, _, tyX4, rfl, by decide, wsX4, z_mem 415 rfl rfl, tyX4_ok, nmX4, rfl, rfl, rfl⟩
set_option maxRecDepth 20000 in
theorem nfRX4_19 : n_F RX4 19 4 4 (.array .boolean) := ⟨_, _, _, tyX4, rfl, by decide, wsX4, z_mem 416 rfl rfl, tyX4_ok, nmX4, rfl, rfl, rfl⟩
set_option maxRecDepth 20000 in
theorem nfRX4_23 : n_F RX4 23 4 6 (.array .int) := ⟨_, _, _, tyX4, rfl, by decide, wsX4, z_mem 418 rfl rfl, tyX4_ok, nmX4, rfl, rfl, rfl⟩
set_option maxRecDepth 20000 in
theorem nfRX4_26 : n_F RX4 26 4 9 (.array .int) := ⟨_, _, _, tyX4, rfl, by decide, wsX4, z_mem 421 rfl rfl, tyX4_ok, nmX4, rfl, rfl, rfl⟩
set_option maxRecDepth 20000 in
theorem nfRX4_29 : n_F RX4 29 4 10 (.array .int) := ⟨_, _, _, tyX4, rfl, by decide, wsX4, z_mem 422 rfl rfl, tyX4_ok, nmX4, rfl, rfl, rfl⟩
set_option maxRecDepth 20000 in
theorem nfRX4_32 : n_F RX4 32 4 11 (.array .int) := ⟨_, _, _, tyX4, rfl, by decide, wsX4, z_mem 423 rfl rfl, tyX4_ok, nmX4, rfl, rfl, rfl⟩
set_option maxRecDepth 20000 in
theorem nfRX4_35 : n_F RX4 35 4 12 (.array .boolean) := ⟨_, _, _, tyX4, rfl, by decide, wsX4, z_mem 424 rfl rfl, tyX4_ok, nmX4, rfl, rfl, rfl⟩
set_option maxRecDepth 20000 in
theorem nfRX4_38 : n_F RX4 38 4 16 (.array .int) := ⟨_, _, _, tyX4, rfl, by decide, wsX4, z_mem 428 rfl rfl, tyX4_ok, nmX4, rfl, rfl, rfl⟩
set_option maxRecDepth 20000 in
theorem nfRX4_41 : n_F RX4 41 4 19 (.array .int) := ⟨_, _, _, tyX4, rfl, by decide, wsX4, z_mem 431 rfl rfl, tyX4_ok, nmX4, rfl, rfl, rfl⟩
set_option maxRecDepth 20000 in
theorem nfRX4_44 : n_F RX4 44 4 20 (.array .boolean) := ⟨_, _, _, tyX4, rfl, by decide, wsX4, z_mem 432 rfl rfl, tyX4_ok, nmX4, rfl, rfl, rfl⟩
/-- the worlds that the constructors leave -/
def W0 (E : nE) (h : Nat) (u r : Nat → Nat) : va_W := [(h, .inr (0, [.ref (u 0), .ref (u 1), .ref (u 2), .ref (u 3), .ref (u 4), .ref (u 5), .int 0])), nr E.2.1 14 (u 0), nr E.2.1 14 (u 1), nr E.2.1 14 (u 2), nr E.2.2.1 14 (u 3), nr E.2.1 10 (u 4), nrr E.2.2.2 10 r (u 5)] ++ n_rows E.2.1 10 10 r
def W1 (E : nE) (h : Nat) (u : Nat → Nat) : va_W := [(h, .inr (1, [.ref (u 0), .ref (u 1), .int 0, .int 0, .int 0])), nr E.2.1 30 (u 0), nr E.2.1 10 (u 1)]
def W2 (E : nE) (h : Nat) (u r t : Nat → Nat) : va_W := [(h, .inr (2, [.ref (u 0), .ref (u 1), .ref (u 2)])), nrr E.2.2.2 5 r (u 0)] ++ n_rows E.2.1 5 10 r ++ [nrr E.2.2.2 5 t (u 1)] ++ n_rows E.2.1 5 10 t ++ [nr E.2.1 5 (u 2)]
def W4 (E : nE) (h : Nat) (u : Nat → Nat) (f : Nat → Int32) : va_W := [(h, .inr (4, [.int 0, .ref (u 0), .ref (u 1), .ref (u 2), .ref (u 3), .int 0, .ref (u 4), .int 0, .int 0, .ref (u 5), .ref (u 6), .ref (u 7), .ref (u 8), .int 0, .int 0, .int 0, .ref (u 9), .int 0, .int 0, .ref (u 10), .ref (u 11)])), nr E.2.1 14 (u 0), nr E.2.1 14 (u 1), nr E.2.1 14 (u 2), nr E.2.2.1 14 (u 3), nr E.2.1 5 (u 4), (u 5, .inl (E.2.1, 50, .inl f)), nr E.2.1 10 (u 6), nr E.2.1 10 (u 7), nr E.2.2.1 140 (u 8), nr E.2.1 41 (u 9), nr E.2.1 41 (u 10), nr E.2.2.1 1024 (u 11)]
def W3 (E : nE) (h b g f o : Nat) (uB rB uG rG tG uF uO rb u : Nat → Nat) (gs : Nat → Nat → Int32) : va_W := (h, .inr (3, [.ref b, .ref g, .ref f, .ref o, .ref (u 0), .ref (u 1), .ref (u 2), .int 0, .int 0, .int 0, .int (-9), .int (-9), .int (-9)])) :: (W0 E b uB rB ++ W2 E g uG rG tG ++ W1 E f uF ++ W1 E o uO ++ [nr E.2.1 5 (u 0), nrr E.2.2.2 5 rb (u 1), (rb 0, .inl (E.2.1, 10, .inl (gs 0))), (rb 1, .inl (E.2.1, 10, .inl (gs 1))), (rb 2, .inl (E.2.1, 10, .inl (gs 2))), (rb 3, .inl (E.2.1, 10, .inl (gs 3))), (rb 4, .inl (E.2.1, 10, .inl (gs 4))), nr E.2.1 10 (u 2)])
def nR0 : Room := { frames := 1, cells := 16, slots := 176, locals := 12 }
def nR1 : Room := { frames := 1, cells := 2, slots := 40, locals := 12 }
def nR2 : Room := { frames := 1, cells := 13, slots := 115, locals := 12 }
def nR3 : Room := { frames := 2, cells := 45, slots := 461, locals := 32 }
def nR4 : Room := { frames := 1, cells := 12, slots := 1377, locals := 12 }
def nRf : Room := { frames := 0, cells := 0, slots := 0, locals := 0 }
/-- Arrays.fill of a row -/
def n_full (E : nE) (N : Nat) (v : Int32) (e : va_E) : Prop := ∃ g : Nat → Int32, e = .inl (E.2.1, N, .inl g) ∧ ∀ i, i < N → g i = v
theorem c_fill (E : nE) (q N : Nat) (f : Nat → Int32) (v : Int32) (hN : N ≤ 2000) : n_Ok E mJ7_fill_53178 nRf 0 [(0, .ref q), (1, .int v)] [] [(q, .inl (E.2.1, N, .inl f))] 0 0 (fun w => ∃ e1, w = [(q, e1)] ∧ n_full E N v e1) := by
  refine n_iconst (v := nI 0) dJ7_fill_53178_0 (by decide) ?_
  refine n_istore 2 [(2, .int (nI 0)), (0, .ref q), (1, .int v)] dJ7_fill_53178_1 rfl (by decide) rfl ?_
  refine n_aload 0 1 dJ7_fill_53178_2 rfl rfl ?_
  refine n_alen (j := 0) dJ7_fill_53178_3 rfl rfl ?_
  refine n_istore 3 [(3, .int (nI N)), (2, .int (nI 0)), (0, .ref q), (1, .int v)] dJ7_fill_53178_4 rfl (by decide) rfl ?_
  have loop : ∀ (m i : Nat) (f : Nat → Int32) (lv : List (Nat × Value)), i + m = N → (∀ j, j < i → f j = v) → lv = [(3, .int (nI N)), (2, .int (nI i)), (0, .ref q), (1, .int v)] ∨ lv = [(2, .int (nI i)), (3, .int (nI N)), (0, .ref q), (1, .int v)] → n_Ok E mJ7_fill_53178 nRf 5 lv [] [(q, .inl (E.2.1, N, .inl f))] 0 0 (fun w => ∃ e1, w = [(q, e1)] ∧ n_full E N v e1) := by
    intro m
    induction m with
    | zero =>
      intro i f lv hi hf hlv
      have fin : n_Ok E mJ7_fill_53178 nRf 20 lv [] [(q, .inl (E.2.1, N, .inl f))] 0 0 (fun w => ∃ e1, w = [(q, e1)] ∧ n_full E N v e1) := n_vret dJ7_fill_53178_20 ⟨Nat.le_refl _, Nat.le_refl _⟩ ⟨_, rfl, f, rfl, fun j hj => hf j (by omega)⟩
      have hge : nI N ≤ nI i := (nI_leI (by omega) (by omega)).mpr (by omega)
      rcases hlv with rfl | rfl
      · refine n_iload 2 1 dJ7_fill_53178_5 rfl rfl (n_iload 3 0 dJ7_fill_53178_6 rfl rfl (n_ge 20 dJ7_fill_53178_7 (by decide) (fun _ => fin) (fun z => absurd hge z)))
      · refine n_iload 2 0 dJ7_fill_53178_5 rfl rfl (n_iload 3 1 dJ7_fill_53178_6 rfl rfl (n_ge 20 dJ7_fill_53178_7 (by decide) (fun _ => fin) (fun z => absurd hge z)))
    | succ m ih =>
      intro i f lv hi hf hlv
      have hge : ¬ nI N ≤ nI i := fun z => by have := (nI_leI (by omega) (by omega)).mp z; omega
      have ec : (nI i).toNatClampNeg = i := nI_clamp (by omega)
      have hup : ∀ j, j < i + 1 → upd f (nI i).toNatClampNeg v j = v := fun j hj => by
        rw [ec]
        by_cases e : j = i
        · simp [upd, e]
        · simp [upd, e]; exact hf j (by omega)
      rcases hlv with rfl | rfl
      · refine n_iload 2 1 dJ7_fill_53178_5 rfl rfl (n_iload 3 0 dJ7_fill_53178_6 rfl rfl (n_ge 20 dJ7_fill_53178_7 (by decide) (fun z => absurd z hge) (fun _ => ?_)))
        refine n_aload 0 2 dJ7_fill_53178_10 rfl rfl (n_iload 2 1 dJ7_fill_53178_11 rfl rfl (n_iload 1 3 dJ7_fill_53178_12 rfl rfl ?_))
        refine n_iast (j := 0) [(q, .inl (E.2.1, N, .inl (upd f (nI i).toNatClampNeg v)))] dJ7_fill_53178_13 rfl (vp_in_nI (by omega) (by omega)) rfl ?_
        refine n_iinc 2 1 (v := nI (i + 1)) [(2, .int (nI (i + 1))), (3, .int (nI N)), (0, .ref q), (1, .int v)] dJ7_fill_53178_14 rfl (nI_succ i).symm (by decide) rfl ?_
        exact n_goto 5 dJ7_fill_53178_17 (by decide) (ih (i + 1) _ _ (by omega) hup (Or.inr rfl))
      · refine n_iload 2 0 dJ7_fill_53178_5 rfl rfl (n_iload 3 1 dJ7_fill_53178_6 rfl rfl (n_ge 20 dJ7_fill_53178_7 (by decide) (fun z => absurd z hge) (fun _ => ?_)))
        refine n_aload 0 2 dJ7_fill_53178_10 rfl rfl (n_iload 2 0 dJ7_fill_53178_11 rfl rfl (n_iload 1 3 dJ7_fill_53178_12 rfl rfl ?_))
        refine n_iast (j := 0) [(q, .inl (E.2.1, N, .inl (upd f (nI i).toNatClampNeg v)))] dJ7_fill_53178_13 rfl (vp_in_nI (by omega) (by omega)) rfl ?_
        refine n_iinc 2 0 (v := nI (i + 1)) [(2, .int (nI (i + 1))), (3, .int (nI N)), (0, .ref q), (1, .int v)] dJ7_fill_53178_14 rfl (nI_succ i).symm (by decide) rfl ?_
        exact n_goto 5 dJ7_fill_53178_17 (by decide) (ih (i + 1) _ _ (by omega) hup (Or.inr rfl))
  exact loop N 0 f _ (by omega) (fun j hj => by omega) (Or.inl rfl)
def pX0 (E : nE) (h : Nat) : va_W → Prop := fun w => ∃ u r, w = W0 E h u r
set_option maxRecDepth 20000 in
theorem cX0 (E : nE) (h : Nat) : n_Ok E mX0_init nR0 0 [(0, .ref h)] [] [(h, .inr (0, [.null, .null, .null, .null, .null, .null, .int 0]))] 0 0 (pX0 E h) := by
  refine n_aload 0 0 dX0_init_0 rfl rfl ?_
  refine n_obj dX0_init_1 noRX0_3 ⟨by decide, by decide⟩ ?_
  refine n_aload 0 0 dX0_init_4 rfl rfl ?_
  refine n_bipush (v := 14) dX0_init_5 (by decide) ?_
  refine n_newi 14 dX0_init_7 nAI (by decide) (by decide) (by decide) ⟨Nat.le_of_ble_eq_true rfl, Nat.le_of_ble_eq_true rfl⟩ (fun q0 => ?_)
  refine n_putF (j := 0) 0 ((h, .inr (0, [.ref q0, .null, .null, .null, .null, .null, .int 0])) :: ([nr E.2.1 14 q0]) : va_W) dX0_init_9 nfRX0_9 rfl rfl rfl rfl (Nat.le_of_ble_eq_true rfl) rfl ?_
  refine n_aload 0 0 dX0_init_12 rfl rfl ?_
  refine n_bipush (v := 14) dX0_init_13 (by decide) ?_
  refine n_newi 14 dX0_init_15 nAI (by decide) (by decide) (by decide) ⟨Nat.le_of_ble_eq_true rfl, Nat.le_of_ble_eq_true rfl⟩ (fun q1 => ?_)
  refine n_putF (j := 0) 1 ((h, .inr (0, [.ref q0, .ref q1, .null, .null, .null, .null, .int 0])) :: ([nr E.2.1 14 q0] ++ [nr E.2.1 14 q1]) : va_W) dX0_init_17 nfRX0_15 rfl rfl rfl rfl (Nat.le_of_ble_eq_true rfl) rfl ?_
  refine n_aload 0 0 dX0_init_20 rfl rfl ?_
  refine n_bipush (v := 14) dX0_init_21 (by decide) ?_
  refine n_newi 14 dX0_init_23 nAI (by decide) (by decide) (by decide) ⟨Nat.le_of_ble_eq_true rfl, Nat.le_of_ble_eq_true rfl⟩ (fun q2 => ?_)
  refine n_putF (j := 0) 2 ((h, .inr (0, [.ref q0, .ref q1, .ref q2, .null, .null, .null, .int 0])) :: ([nr E.2.1 14 q0] ++ [nr E.2.1 14 q1] ++ [nr E.2.1 14 q2]) : va_W) dX0_init_25 nfRX0_18 rfl rfl rfl rfl (Nat.le_of_ble_eq_true rfl) rfl ?_
  refine n_aload 0 0 dX0_init_28 rfl rfl ?_
  refine n_bipush (v := 14) dX0_init_29 (by decide) ?_
  refine n_newz 14 dX0_init_31 nAZ (by decide) (by decide) (by decide) ⟨Nat.le_of_ble_eq_true rfl, Nat.le_of_ble_eq_true rfl⟩ (fun q3 => ?_)
  refine n_putF (j := 0) 3 ((h, .inr (0, [.ref q0, .ref q1, .ref q2, .ref q3, .null, .null, .int 0])) :: ([nr E.2.1 14 q0] ++ [nr E.2.1 14 q1] ++ [nr E.2.1 14 q2] ++ [nr E.2.2.1 14 q3]) : va_W) dX0_init_33 nfRX0_21 rfl rfl rfl rfl (Nat.le_of_ble_eq_true rfl) rfl ?_
  refine n_aload 0 0 dX0_init_36 rfl rfl ?_
  refine n_bipush (v := 10) dX0_init_37 (by decide) ?_
  refine n_newi 10 dX0_init_39 nAI (by decide) (by decide) (by decide) ⟨Nat.le_of_ble_eq_true rfl, Nat.le_of_ble_eq_true rfl⟩ (fun q4 => ?_)
  refine n_putF (j := 0) 4 ((h, .inr (0, [.ref q0, .ref q1, .ref q2, .ref q3, .ref q4, .null, .int 0])) :: ([nr E.2.1 14 q0] ++ [nr E.2.1 14 q1] ++ [nr E.2.1 14 q2] ++ [nr E.2.2.1 14 q3] ++ [nr E.2.1 10 q4]) : va_W) dX0_init_41 nfRX0_25 rfl rfl rfl rfl (Nat.le_of_ble_eq_true rfl) rfl ?_
  refine n_aload 0 0 dX0_init_44 rfl rfl ?_
  refine n_bipush (v := 10) dX0_init_45 (by decide) ?_
  refine n_bipush (v := 10) dX0_init_47 (by decide) ?_
  refine n_mna 10 10 dX0_init_49 nmRX0_28 nAI (by decide) (by decide) (by decide) (by decide) ⟨by decide, by decide⟩ ⟨Nat.le_of_ble_eq_true rfl, Nat.le_of_ble_eq_true rfl⟩ (fun q5 r5 => ?_)
  refine n_putF (j := 0) 5 ((h, .inr (0, [.ref q0, .ref q1, .ref q2, .ref q3, .ref q4, .ref q5, .int 0])) :: ([nr E.2.1 14 q0] ++ [nr E.2.1 14 q1] ++ [nr E.2.1 14 q2] ++ [nr E.2.2.1 14 q3] ++ [nr E.2.1 10 q4] ++ (nrr E.2.2.2 10 r5 q5 :: n_rows E.2.1 10 10 r5)) : va_W) dX0_init_53 nfRX0_30 rfl rfl rfl rfl (Nat.le_of_ble_eq_true rfl) rfl ?_
  refine n_aload 0 0 dX0_init_56 rfl rfl ?_
  refine n_iconst (v := 0) dX0_init_57 (by decide) ?_
  refine n_puti (j := 0) 6 ((h, .inr (0, [.ref q0, .ref q1, .ref q2, .ref q3, .ref q4, .ref q5, .int 0])) :: ([nr E.2.1 14 q0] ++ [nr E.2.1 14 q1] ++ [nr E.2.1 14 q2] ++ [nr E.2.2.1 14 q3] ++ [nr E.2.1 10 q4] ++ (nrr E.2.2.2 10 r5 q5 :: n_rows E.2.1 10 10 r5)) : va_W) dX0_init_58 pRX0_33 rfl (Nat.le_of_ble_eq_true rfl) rfl ?_
  exact n_vret dX0_init_61 ⟨Nat.le_of_ble_eq_true rfl, Nat.le_of_ble_eq_true rfl⟩ ⟨fun k => [q0, q1, q2, q3, q4, q5].getD k 0, r5, rfl⟩
def pX1 (E : nE) (h : Nat) : va_W → Prop := fun w => ∃ u, w = W1 E h u
set_option maxRecDepth 20000 in
theorem cX1 (E : nE) (h : Nat) : n_Ok E mX1_init nR1 0 [(0, .ref h)] [] [(h, .inr (1, [.null, .null, .int 0, .int 0, .int 0]))] 0 0 (pX1 E h) := by
  refine n_aload 0 0 dX1_init_0 rfl rfl ?_
  refine n_obj dX1_init_1 noRX1_3 ⟨by decide, by decide⟩ ?_
  refine n_aload 0 0 dX1_init_4 rfl rfl ?_
  refine n_bipush (v := 30) dX1_init_5 (by decide) ?_
  refine n_newi 30 dX1_init_7 nAI (by decide) (by decide) (by decide) ⟨Nat.le_of_ble_eq_true rfl, Nat.le_of_ble_eq_true rfl⟩ (fun q0 => ?_)
  refine n_putF (j := 0) 0 ((h, .inr (1, [.ref q0, .null, .int 0, .int 0, .int 0])) :: ([nr E.2.1 30 q0]) : va_W) dX1_init_9 nfRX1_9 rfl rfl rfl rfl (Nat.le_of_ble_eq_true rfl) rfl ?_
  refine n_aload 0 0 dX1_init_12 rfl rfl ?_
  refine n_bipush (v := 10) dX1_init_13 (by decide) ?_
  refine n_newi 10 dX1_init_15 nAI (by decide) (by decide) (by decide) ⟨Nat.le_of_ble_eq_true rfl, Nat.le_of_ble_eq_true rfl⟩ (fun q1 => ?_)
  refine n_putF (j := 0) 1 ((h, .inr (1, [.ref q0, .ref q1, .int 0, .int 0, .int 0])) :: ([nr E.2.1 30 q0] ++ [nr E.2.1 10 q1]) : va_W) dX1_init_17 nfRX1_15 rfl rfl rfl rfl (Nat.le_of_ble_eq_true rfl) rfl ?_
  refine n_aload 0 0 dX1_init_20 rfl rfl ?_
  refine n_iconst (v := 0) dX1_init_21 (by decide) ?_
  refine n_puti (j := 0) 2 ((h, .inr (1, [.ref q0, .ref q1, .int 0, .int 0, .int 0])) :: ([nr E.2.1 30 q0] ++ [nr E.2.1 10 q1]) : va_W) dX1_init_22 pRX1_18 rfl (Nat.le_of_ble_eq_true rfl) rfl ?_
  refine n_aload 0 0 dX1_init_25 rfl rfl ?_
  refine n_iconst (v := 0) dX1_init_26 (by decide) ?_
  refine n_puti (j := 0) 3 ((h, .inr (1, [.ref q0, .ref q1, .int 0, .int 0, .int 0])) :: ([nr E.2.1 30 q0] ++ [nr E.2.1 10 q1]) : va_W) dX1_init_27 pRX1_22 rfl (Nat.le_of_ble_eq_true rfl) rfl ?_
  refine n_aload 0 0 dX1_init_30 rfl rfl ?_
  refine n_iconst (v := 0) dX1_init_31 (by decide) ?_
  refine n_puti (j := 0) 4 ((h, .inr (1, [.ref q0, .ref q1, .int 0, .int 0, .int 0])) :: ([nr E.2.1 30 q0] ++ [nr E.2.1 10 q1]) : va_W) dX1_init_32 pRX1_25 rfl (Nat.le_of_ble_eq_true rfl) rfl ?_
  exact n_vret dX1_init_35 ⟨Nat.le_of_ble_eq_true rfl, Nat.le_of_ble_eq_true rfl⟩ ⟨fun k => [q0, q1].getD k 0, rfl⟩
def pX2 (E : nE) (h : Nat) : va_W → Prop := fun w => ∃ u r t, w = W2 E h u r t
set_option maxRecDepth 20000 in
theorem cX2 (E : nE) (h : Nat) : n_Ok E mX2_init nR2 0 [(0, .ref h)] [] [(h, .inr (2, [.null, .null, .null]))] 0 0 (pX2 E h) := by
  refine n_aload 0 0 dX2_init_0 rfl rfl ?_
  refine n_obj dX2_init_1 noRX2_3 ⟨by decide, by decide⟩ ?_
  refine n_aload 0 0 dX2_init_4 rfl rfl ?_
  refine n_iconst (v := 5) dX2_init_5 (by decide) ?_
  refine n_bipush (v := 10) dX2_init_6 (by decide) ?_
  refine n_mna 5 10 dX2_init_8 nmRX2_9 nAI (by decide) (by decide) (by decide) (by decide) ⟨by decide, by decide⟩ ⟨Nat.le_of_ble_eq_true rfl, Nat.le_of_ble_eq_true rfl⟩ (fun q0 r0 => ?_)
  refine n_putF (j := 0) 0 ((h, .inr (2, [.ref q0, .null, .null])) :: ((nrr E.2.2.2 5 r0 q0 :: n_rows E.2.1 5 10 r0)) : va_W) dX2_init_12 nfRX2_11 rfl rfl rfl rfl (Nat.le_of_ble_eq_true rfl) rfl ?_
  refine n_aload 0 0 dX2_init_15 rfl rfl ?_
  refine n_iconst (v := 5) dX2_init_16 (by decide) ?_
  refine n_bipush (v := 10) dX2_init_17 (by decide) ?_
  refine n_mna 5 10 dX2_init_19 nmRX2_9 nAI (by decide) (by decide) (by decide) (by decide) ⟨by decide, by decide⟩ ⟨Nat.le_of_ble_eq_true rfl, Nat.le_of_ble_eq_true rfl⟩ (fun q1 r1 => ?_)
  refine n_putF (j := 0) 1 ((h, .inr (2, [.ref q0, .ref q1, .null])) :: ((nrr E.2.2.2 5 r0 q0 :: n_rows E.2.1 5 10 r0) ++ (nrr E.2.2.2 5 r1 q1 :: n_rows E.2.1 5 10 r1)) : va_W) dX2_init_23 nfRX2_16 rfl rfl rfl rfl (Nat.le_of_ble_eq_true rfl) rfl ?_
  refine n_aload 0 0 dX2_init_26 rfl rfl ?_
  refine n_iconst (v := 5) dX2_init_27 (by decide) ?_
  refine n_newi 5 dX2_init_28 nAI (by decide) (by decide) (by decide) ⟨Nat.le_of_ble_eq_true rfl, Nat.le_of_ble_eq_true rfl⟩ (fun q2 => ?_)
  refine n_putF (j := 0) 2 ((h, .inr (2, [.ref q0, .ref q1, .ref q2])) :: ((nrr E.2.2.2 5 r0 q0 :: n_rows E.2.1 5 10 r0) ++ (nrr E.2.2.2 5 r1 q1 :: n_rows E.2.1 5 10 r1) ++ [nr E.2.1 5 q2]) : va_W) dX2_init_30 nfRX2_19 rfl rfl rfl rfl (Nat.le_of_ble_eq_true rfl) rfl ?_
  exact n_vret dX2_init_33 ⟨Nat.le_of_ble_eq_true rfl, Nat.le_of_ble_eq_true rfl⟩ ⟨fun k => [q0, q1, q2].getD k 0, r0, r1, rfl⟩
def pX4 (E : nE) (h : Nat) : va_W → Prop := fun w => ∃ u f, w = W4 E h u f ∧ ∀ x, x < 50 → f x = -9
set_option maxRecDepth 20000 in
theorem cX4 (E : nE) (h : Nat) : n_Ok E mX4_init nR4 0 [(0, .ref h)] [] [(h, .inr (4, [.int 0, .null, .null, .null, .null, .int 0, .null, .int 0, .int 0, .null, .null, .null, .null, .int 0, .int 0, .int 0, .null, .int 0, .int 0, .null, .null]))] 0 0 (pX4 E h) := by
  refine n_aload 0 0 dX4_init_0 rfl rfl ?_
  refine n_obj dX4_init_1 noRX4_1 ⟨by decide, by decide⟩ ?_
  refine n_aload 0 0 dX4_init_4 rfl rfl ?_
  refine n_bipush (v := 14) dX4_init_5 (by decide) ?_
  refine n_newi 14 dX4_init_7 nAI (by decide) (by decide) (by decide) ⟨Nat.le_of_ble_eq_true rfl, Nat.le_of_ble_eq_true rfl⟩ (fun q0 => ?_)
  refine n_putF (j := 0) 1 ((h, .inr (4, [.int 0, .ref q0, .null, .null, .null, .int 0, .null, .int 0, .int 0, .null, .null, .null, .null, .int 0, .int 0, .int 0, .null, .int 0, .int 0, .null, .null])) :: ([nr E.2.1 14 q0]) : va_W) dX4_init_9 nfRX4_7 rfl rfl rfl rfl (Nat.le_of_ble_eq_true rfl) rfl ?_
  refine n_aload 0 0 dX4_init_12 rfl rfl ?_
  refine n_bipush (v := 14) dX4_init_13 (by decide) ?_
  refine n_newi 14 dX4_init_15 nAI (by decide) (by decide) (by decide) ⟨Nat.le_of_ble_eq_true rfl, Nat.le_of_ble_eq_true rfl⟩ (fun q1 => ?_)
  refine n_putF (j := 0) 2 ((h, .inr (4, [.int 0, .ref q0, .ref q1, .null, .null, .int 0, .null, .int 0, .int 0, .null, .null, .null, .null, .int 0, .int 0, .int 0, .null, .int 0, .int 0, .null, .null])) :: ([nr E.2.1 14 q0] ++ [nr E.2.1 14 q1]) : va_W) dX4_init_17 nfRX4_13 rfl rfl rfl rfl (Nat.le_of_ble_eq_true rfl) rfl ?_
  refine n_aload 0 0 dX4_init_20 rfl rfl ?_
  refine n_bipush (v := 14) dX4_init_21 (by decide) ?_
  refine n_newi 14 dX4_init_23 nAI (by decide) (by decide) (by decide) ⟨Nat.le_of_ble_eq_true rfl, Nat.le_of_ble_eq_true rfl⟩ (fun q2 => ?_)
  refine n_putF (j := 0) 3 ((h, .inr (4, [.int 0, .ref q0, .ref q1, .ref q2, .null, .int 0, .null, .int 0, .int 0, .null, .null, .null, .null, .int 0, .int 0, .int 0, .null, .int 0, .int 0, .null, .null])) :: ([nr E.2.1 14 q0] ++ [nr E.2.1 14 q1] ++ [nr E.2.1 14 q2]) : va_W) dX4_init_25 nfRX4_16 rfl rfl rfl rfl (Nat.le_of_ble_eq_true rfl) rfl ?_
  refine n_aload 0 0 dX4_init_28 rfl rfl ?_
  refine n_bipush (v := 14) dX4_init_29 (by decide) ?_
  refine n_newz 14 dX4_init_31 nAZ (by decide) (by decide) (by decide) ⟨Nat.le_of_ble_eq_true rfl, Nat.le_of_ble_eq_true rfl⟩ (fun q3 => ?_)
  refine n_putF (j := 0) 4 ((h, .inr (4, [.int 0, .ref q0, .ref q1, .ref q2, .ref q3, .int 0, .null, .int 0, .int 0, .null, .null, .null, .null, .int 0, .int 0, .int 0, .null, .int 0, .int 0, .null, .null])) :: ([nr E.2.1 14 q0] ++ [nr E.2.1 14 q1] ++ [nr E.2.1 14 q2] ++ [nr E.2.2.1 14 q3]) : va_W) dX4_init_33 nfRX4_19 rfl rfl rfl rfl (Nat.le_of_ble_eq_true rfl) rfl ?_
  refine n_aload 0 0 dX4_init_36 rfl rfl ?_
  refine n_iconst (v := 5) dX4_init_37 (by decide) ?_
  refine n_newi 5 dX4_init_38 nAI (by decide) (by decide) (by decide) ⟨Nat.le_of_ble_eq_true rfl, Nat.le_of_ble_eq_true rfl⟩ (fun q4 => ?_)
  refine n_putF (j := 0) 6 ((h, .inr (4, [.int 0, .ref q0, .ref q1, .ref q2, .ref q3, .int 0, .ref q4, .int 0, .int 0, .null, .null, .null, .null, .int 0, .int 0, .int 0, .null, .int 0, .int 0, .null, .null])) :: ([nr E.2.1 14 q0] ++ [nr E.2.1 14 q1] ++ [nr E.2.1 14 q2] ++ [nr E.2.2.1 14 q3] ++ [nr E.2.1 5 q4]) : va_W) dX4_init_40 nfRX4_23 rfl rfl rfl rfl (Nat.le_of_ble_eq_true rfl) rfl ?_
  refine n_aload 0 0 dX4_init_43 rfl rfl ?_
  refine n_bipush (v := 50) dX4_init_44 (by decide) ?_
  refine n_newi 50 dX4_init_46 nAI (by decide) (by decide) (by decide) ⟨Nat.le_of_ble_eq_true rfl, Nat.le_of_ble_eq_true rfl⟩ (fun q5 => ?_)
  refine n_putF (j := 0) 9 ((h, .inr (4, [.int 0, .ref q0, .ref q1, .ref q2, .ref q3, .int 0, .ref q4, .int 0, .int 0, .ref q5, .null, .null, .null, .int 0, .int 0, .int 0, .null, .int 0, .int 0, .null, .null])) :: ([nr E.2.1 14 q0] ++ [nr E.2.1 14 q1] ++ [nr E.2.1 14 q2] ++ [nr E.2.2.1 14 q3] ++ [nr E.2.1 5 q4] ++ [nr E.2.1 50 q5]) : va_W) dX4_init_48 nfRX4_26 rfl rfl rfl rfl (Nat.le_of_ble_eq_true rfl) rfl ?_
  refine n_aload 0 0 dX4_init_51 rfl rfl ?_
  refine n_bipush (v := 10) dX4_init_52 (by decide) ?_
  refine n_newi 10 dX4_init_54 nAI (by decide) (by decide) (by decide) ⟨Nat.le_of_ble_eq_true rfl, Nat.le_of_ble_eq_true rfl⟩ (fun q6 => ?_)
  refine n_putF (j := 0) 10 ((h, .inr (4, [.int 0, .ref q0, .ref q1, .ref q2, .ref q3, .int 0, .ref q4, .int 0, .int 0, .ref q5, .ref q6, .null, .null, .int 0, .int 0, .int 0, .null, .int 0, .int 0, .null, .null])) :: ([nr E.2.1 14 q0] ++ [nr E.2.1 14 q1] ++ [nr E.2.1 14 q2] ++ [nr E.2.2.1 14 q3] ++ [nr E.2.1 5 q4] ++ [nr E.2.1 50 q5] ++ [nr E.2.1 10 q6]) : va_W) dX4_init_56 nfRX4_29 rfl rfl rfl rfl (Nat.le_of_ble_eq_true rfl) rfl ?_
  refine n_aload 0 0 dX4_init_59 rfl rfl ?_
  refine n_bipush (v := 10) dX4_init_60 (by decide) ?_
  refine n_newi 10 dX4_init_62 nAI (by decide) (by decide) (by decide) ⟨Nat.le_of_ble_eq_true rfl, Nat.le_of_ble_eq_true rfl⟩ (fun q7 => ?_)
  refine n_putF (j := 0) 11 ((h, .inr (4, [.int 0, .ref q0, .ref q1, .ref q2, .ref q3, .int 0, .ref q4, .int 0, .int 0, .ref q5, .ref q6, .ref q7, .null, .int 0, .int 0, .int 0, .null, .int 0, .int 0, .null, .null])) :: ([nr E.2.1 14 q0] ++ [nr E.2.1 14 q1] ++ [nr E.2.1 14 q2] ++ [nr E.2.2.1 14 q3] ++ [nr E.2.1 5 q4] ++ [nr E.2.1 50 q5] ++ [nr E.2.1 10 q6] ++ [nr E.2.1 10 q7]) : va_W) dX4_init_64 nfRX4_32 rfl rfl rfl rfl (Nat.le_of_ble_eq_true rfl) rfl ?_
  refine n_aload 0 0 dX4_init_67 rfl rfl ?_
  refine n_sipush (v := 140) dX4_init_68 (by decide) ?_
  refine n_newz 140 dX4_init_71 nAZ (by decide) (by decide) (by decide) ⟨Nat.le_of_ble_eq_true rfl, Nat.le_of_ble_eq_true rfl⟩ (fun q8 => ?_)
  refine n_putF (j := 0) 12 ((h, .inr (4, [.int 0, .ref q0, .ref q1, .ref q2, .ref q3, .int 0, .ref q4, .int 0, .int 0, .ref q5, .ref q6, .ref q7, .ref q8, .int 0, .int 0, .int 0, .null, .int 0, .int 0, .null, .null])) :: ([nr E.2.1 14 q0] ++ [nr E.2.1 14 q1] ++ [nr E.2.1 14 q2] ++ [nr E.2.2.1 14 q3] ++ [nr E.2.1 5 q4] ++ [nr E.2.1 50 q5] ++ [nr E.2.1 10 q6] ++ [nr E.2.1 10 q7] ++ [nr E.2.2.1 140 q8]) : va_W) dX4_init_73 nfRX4_35 rfl rfl rfl rfl (Nat.le_of_ble_eq_true rfl) rfl ?_
  refine n_aload 0 0 dX4_init_76 rfl rfl ?_
  refine n_bipush (v := 41) dX4_init_77 (by decide) ?_
  refine n_newi 41 dX4_init_79 nAI (by decide) (by decide) (by decide) ⟨Nat.le_of_ble_eq_true rfl, Nat.le_of_ble_eq_true rfl⟩ (fun q9 => ?_)
  refine n_putF (j := 0) 16 ((h, .inr (4, [.int 0, .ref q0, .ref q1, .ref q2, .ref q3, .int 0, .ref q4, .int 0, .int 0, .ref q5, .ref q6, .ref q7, .ref q8, .int 0, .int 0, .int 0, .ref q9, .int 0, .int 0, .null, .null])) :: ([nr E.2.1 14 q0] ++ [nr E.2.1 14 q1] ++ [nr E.2.1 14 q2] ++ [nr E.2.2.1 14 q3] ++ [nr E.2.1 5 q4] ++ [nr E.2.1 50 q5] ++ [nr E.2.1 10 q6] ++ [nr E.2.1 10 q7] ++ [nr E.2.2.1 140 q8] ++ [nr E.2.1 41 q9]) : va_W) dX4_init_81 nfRX4_38 rfl rfl rfl rfl (Nat.le_of_ble_eq_true rfl) rfl ?_
  refine n_aload 0 0 dX4_init_84 rfl rfl ?_
  refine n_bipush (v := 41) dX4_init_85 (by decide) ?_
  refine n_newi 41 dX4_init_87 nAI (by decide) (by decide) (by decide) ⟨Nat.le_of_ble_eq_true rfl, Nat.le_of_ble_eq_true rfl⟩ (fun q10 => ?_)
  refine n_putF (j := 0) 19 ((h, .inr (4, [.int 0, .ref q0, .ref q1, .ref q2, .ref q3, .int 0, .ref q4, .int 0, .int 0, .ref q5, .ref q6, .ref q7, .ref q8, .int 0, .int 0, .int 0, .ref q9, .int 0, .int 0, .ref q10, .null])) :: ([nr E.2.1 14 q0] ++ [nr E.2.1 14 q1] ++ [nr E.2.1 14 q2] ++ [nr E.2.2.1 14 q3] ++ [nr E.2.1 5 q4] ++ [nr E.2.1 50 q5] ++ [nr E.2.1 10 q6] ++ [nr E.2.1 10 q7] ++ [nr E.2.2.1 140 q8] ++ [nr E.2.1 41 q9] ++ [nr E.2.1 41 q10]) : va_W) dX4_init_89 nfRX4_41 rfl rfl rfl rfl (Nat.le_of_ble_eq_true rfl) rfl ?_
  refine n_aload 0 0 dX4_init_92 rfl rfl ?_
  refine n_sipush (v := 1024) dX4_init_93 (by decide) ?_
  refine n_newz 1024 dX4_init_96 nAZ (by decide) (by decide) (by decide) ⟨Nat.le_of_ble_eq_true rfl, Nat.le_of_ble_eq_true rfl⟩ (fun q11 => ?_)
  refine n_putF (j := 0) 20 ((h, .inr (4, [.int 0, .ref q0, .ref q1, .ref q2, .ref q3, .int 0, .ref q4, .int 0, .int 0, .ref q5, .ref q6, .ref q7, .ref q8, .int 0, .int 0, .int 0, .ref q9, .int 0, .int 0, .ref q10, .ref q11])) :: ([nr E.2.1 14 q0] ++ [nr E.2.1 14 q1] ++ [nr E.2.1 14 q2] ++ [nr E.2.2.1 14 q3] ++ [nr E.2.1 5 q4] ++ [nr E.2.1 50 q5] ++ [nr E.2.1 10 q6] ++ [nr E.2.1 10 q7] ++ [nr E.2.2.1 140 q8] ++ [nr E.2.1 41 q9] ++ [nr E.2.1 41 q10] ++ [nr E.2.2.1 1024 q11]) : va_W) dX4_init_98 nfRX4_44 rfl rfl rfl rfl (Nat.le_of_ble_eq_true rfl) rfl ?_
  refine n_iconst (v := nI 0) dX4_init_101 (by decide) ?_
  refine n_istore 1 [(1, .int (nI 0)), (0, .ref h)] dX4_init_102 rfl (by decide) rfl ?_
  have loop : ∀ (m x : Nat) (u : Nat → Nat) (f : Nat → Int32), x + m = 50 → (∀ i, i < x → f i = -9) → n_Ok E mX4_init nR4 103 [(1, .int (nI x)), (0, .ref h)] [] (W4 E h u f) 12 1377 (pX4 E h) := by
    intro m
    induction m with
    | zero =>
      intro x u f hx hf
      refine n_iload 1 0 dX4_init_103 rfl rfl (n_bipush (v := nI 50) dX4_init_104 (by decide) (n_ge 123 dX4_init_106 (by decide) (fun _ => ?_) (fun z => absurd ((nI_leI (by omega) (by omega)).mpr (by omega)) z)))
      exact n_vret dX4_init_123 ⟨Nat.le_refl _, Nat.le_refl _⟩ ⟨u, f, rfl, fun i hi => hf i (by omega)⟩
    | succ m ih =>
      intro x u f hx hf
      have ec : (nI x).toNatClampNeg = x := nI_clamp (by omega)
      refine n_iload 1 0 dX4_init_103 rfl rfl (n_bipush (v := nI 50) dX4_init_104 (by decide) (n_ge 123 dX4_init_106 (by decide) (fun z => by have := (nI_leI (by omega) (by omega)).mp z; omega) (fun _ => ?_)))
      refine n_aload 0 1 dX4_init_109 rfl rfl ?_
      refine n_getr (j := 0) 9 dX4_init_110 fRX4_26 rfl rfl ?_
      refine n_iload 1 0 dX4_init_113 rfl rfl ?_
      refine n_bipush (v := -9) dX4_init_114 (by decide) ?_
      refine n_iast (j := 6) (W4 E h u (upd f (nI x).toNatClampNeg (-9))) dX4_init_116 rfl (vp_in_nI (by omega) (by omega)) rfl ?_
      refine n_iinc 1 0 (v := nI (x + 1)) [(1, .int (nI (x + 1))), (0, .ref h)] dX4_init_117 rfl (nI_succ x).symm (by decide) rfl ?_
      refine n_goto 103 dX4_init_120 (by decide) (ih (x + 1) u _ (by omega) (fun i hi => ?_))
      rw [ec]
      by_cases e : i = x
      · simp [upd, e]
      · simp [upd, e]; exact hf i (by omega)
  exact loop 50 0 (fun k => [q0, q1, q2, q3, q4, q5, q6, q7, q8, q9, q10, q11].getD k 0) n_z (by omega) (fun i hi => by omega)
def pX3 (E : nE) (h : Nat) : va_W → Prop := fun w => ∃ b g f o uB rB uG rG tG uF uO rb u gs, w = W3 E h b g f o uB rB uG rG tG uF uO rb u gs ∧ ∀ n, n < 5 → ∀ x, x < 10 → gs n x = -9
set_option maxRecDepth 20000 in
set_option maxHeartbeats 1000000 in
theorem cX3 (E : nE) (h : Nat) : n_Ok E mX3_init nR3 0 [(0, .ref h)] [] [(h, .inr (3, [.null, .null, .null, .null, .null, .null, .null, .int 0, .int 0, .int 0, .int 0, .int 0, .int 0]))] 0 0 (pX3 E h) := by
  refine n_aload 0 0 dX3_init_0 rfl rfl ?_
  refine n_obj dX3_init_1 noRX3_3 ⟨by decide, by decide⟩ ?_
  refine n_aload 0 0 dX3_init_4 rfl rfl ?_
  refine n_new dX3_init_5 nnRX3_9 ⟨Nat.le_of_ble_eq_true rfl, Nat.le_of_ble_eq_true rfl⟩ (fun q0 => ?_)
  refine n_dup dX3_init_8 rfl ?_
  refine n_init (PZ := pX0 E q0) dX3_init_9 tX0_init niRX3_11 rfl pnX0_init rfl ⟨Nat.le_of_ble_eq_true rfl, Nat.le_of_ble_eq_true rfl⟩ ⟨Nat.le_of_ble_eq_true rfl, Nat.le_of_ble_eq_true rfl⟩ (by simp [Value.category]) (by decide) (cX0 E q0) (fun w1 hw1 => ?_)
  obtain ⟨uq0, rq0, rfl⟩ := hw1
  refine n_putF (j := 0) 0 ((h, .inr (3, [.ref q0, .null, .null, .null, .null, .null, .null, .int 0, .int 0, .int 0, .int 0, .int 0, .int 0])) :: (W0 E q0 uq0 rq0) : va_W) dX3_init_12 nfRX3_12 rfl rfl rfl rfl (Nat.le_of_ble_eq_true rfl) rfl ?_
  refine n_aload 0 0 dX3_init_15 rfl rfl ?_
  refine n_new dX3_init_16 nnRX3_16 ⟨Nat.le_of_ble_eq_true rfl, Nat.le_of_ble_eq_true rfl⟩ (fun q1 => ?_)
  refine n_dup dX3_init_19 rfl ?_
  refine n_init (PZ := pX2 E q1) dX3_init_20 tX2_init niRX3_18 rfl pnX2_init rfl ⟨Nat.le_of_ble_eq_true rfl, Nat.le_of_ble_eq_true rfl⟩ ⟨Nat.le_of_ble_eq_true rfl, Nat.le_of_ble_eq_true rfl⟩ (by simp [Value.category]) (by decide) (cX2 E q1) (fun w1 hw1 => ?_)
  obtain ⟨uq1, rq1, tq1, rfl⟩ := hw1
  refine n_putF (j := 0) 1 ((h, .inr (3, [.ref q0, .ref q1, .null, .null, .null, .null, .null, .int 0, .int 0, .int 0, .int 0, .int 0, .int 0])) :: (W0 E q0 uq0 rq0 ++ W2 E q1 uq1 rq1 tq1) : va_W) dX3_init_23 nfRX3_19 rfl rfl rfl rfl (Nat.le_of_ble_eq_true rfl) rfl ?_
  refine n_aload 0 0 dX3_init_26 rfl rfl ?_
  refine n_new dX3_init_27 nnRX3_23 ⟨Nat.le_of_ble_eq_true rfl, Nat.le_of_ble_eq_true rfl⟩ (fun q2 => ?_)
  refine n_dup dX3_init_30 rfl ?_
  refine n_init (PZ := pX1 E q2) dX3_init_31 tX1_init niRX3_25 rfl pnX1_init rfl ⟨Nat.le_of_ble_eq_true rfl, Nat.le_of_ble_eq_true rfl⟩ ⟨Nat.le_of_ble_eq_true rfl, Nat.le_of_ble_eq_true rfl⟩ (by simp [Value.category]) (by decide) (cX1 E q2) (fun w1 hw1 => ?_)
  obtain ⟨uq2, rfl⟩ := hw1
  refine n_putF (j := 0) 2 ((h, .inr (3, [.ref q0, .ref q1, .ref q2, .null, .null, .null, .null, .int 0, .int 0, .int 0, .int 0, .int 0, .int 0])) :: (W0 E q0 uq0 rq0 ++ W2 E q1 uq1 rq1 tq1 ++ W1 E q2 uq2) : va_W) dX3_init_34 nfRX3_26 rfl rfl rfl rfl (Nat.le_of_ble_eq_true rfl) rfl ?_
  refine n_aload 0 0 dX3_init_37 rfl rfl ?_
  refine n_new dX3_init_38 nnRX3_23 ⟨Nat.le_of_ble_eq_true rfl, Nat.le_of_ble_eq_true rfl⟩ (fun q3 => ?_)
  refine n_dup dX3_init_41 rfl ?_
  refine n_init (PZ := pX1 E q3) dX3_init_42 tX1_init niRX3_25 rfl pnX1_init rfl ⟨Nat.le_of_ble_eq_true rfl, Nat.le_of_ble_eq_true rfl⟩ ⟨Nat.le_of_ble_eq_true rfl, Nat.le_of_ble_eq_true rfl⟩ (by simp [Value.category]) (by decide) (cX1 E q3) (fun w1 hw1 => ?_)
  obtain ⟨uq3, rfl⟩ := hw1
  refine n_putF (j := 0) 3 ((h, .inr (3, [.ref q0, .ref q1, .ref q2, .ref q3, .null, .null, .null, .int 0, .int 0, .int 0, .int 0, .int 0, .int 0])) :: (W0 E q0 uq0 rq0 ++ W2 E q1 uq1 rq1 tq1 ++ W1 E q2 uq2 ++ W1 E q3 uq3) : va_W) dX3_init_45 nfRX3_30 rfl rfl rfl rfl (Nat.le_of_ble_eq_true rfl) rfl ?_
  refine n_aload 0 0 dX3_init_48 rfl rfl ?_
  refine n_iconst (v := 5) dX3_init_49 (by decide) ?_
  refine n_newi 5 dX3_init_50 nAI (by decide) (by decide) (by decide) ⟨Nat.le_of_ble_eq_true rfl, Nat.le_of_ble_eq_true rfl⟩ (fun q4 => ?_)
  refine n_putF (j := 0) 4 ((h, .inr (3, [.ref q0, .ref q1, .ref q2, .ref q3, .ref q4, .null, .null, .int 0, .int 0, .int 0, .int 0, .int 0, .int 0])) :: (W0 E q0 uq0 rq0 ++ W2 E q1 uq1 rq1 tq1 ++ W1 E q2 uq2 ++ W1 E q3 uq3 ++ [nr E.2.1 5 q4]) : va_W) dX3_init_52 nfRX3_33 rfl rfl rfl rfl (Nat.le_of_ble_eq_true rfl) rfl ?_
  refine n_aload 0 0 dX3_init_55 rfl rfl ?_
  refine n_iconst (v := 5) dX3_init_56 (by decide) ?_
  refine n_bipush (v := 10) dX3_init_57 (by decide) ?_
  refine n_mna 5 10 dX3_init_59 nmRX3_37 nAI (by decide) (by decide) (by decide) (by decide) ⟨by decide, by decide⟩ ⟨Nat.le_of_ble_eq_true rfl, Nat.le_of_ble_eq_true rfl⟩ (fun q5 r5 => ?_)
  refine n_putF (j := 0) 5 ((h, .inr (3, [.ref q0, .ref q1, .ref q2, .ref q3, .ref q4, .ref q5, .null, .int 0, .int 0, .int 0, .int 0, .int 0, .int 0])) :: (W0 E q0 uq0 rq0 ++ W2 E q1 uq1 rq1 tq1 ++ W1 E q2 uq2 ++ W1 E q3 uq3 ++ [nr E.2.1 5 q4] ++ (nrr E.2.2.2 5 r5 q5 :: n_rows E.2.1 5 10 r5)) : va_W) dX3_init_63 nfRX3_39 rfl rfl rfl rfl (Nat.le_of_ble_eq_true rfl) rfl ?_
  refine n_iconst (v := nI 0) dX3_init_66 (by decide) ?_
  refine n_istore 1 [(1, .int (nI 0)), (0, .ref h)] dX3_init_67 rfl (by decide) rfl ?_
  refine n_iload 1 0 dX3_init_68 rfl rfl (n_iconst (v := nI 5) dX3_init_69 (by decide) (n_ge 90 dX3_init_70 (by decide) (fun z => absurd z (by decide)) (fun _ => ?_)))
  refine n_aload 0 1 dX3_init_73 rfl rfl ?_
  refine n_getr (j := 0) 5 dX3_init_74 fRX3_39 rfl rfl ?_
  refine n_iload 1 0 dX3_init_77 rfl rfl ?_
  refine n_aald (j := 39) dX3_init_78 rfl (vp_in_nI (by omega) (by omega)) ?_
  refine n_bipush (v := -9) dX3_init_79 (by decide) ?_
  refine n_stat (RZ := nRf) (j := 40) (q := r5 0) (PZ := n_full E 10 (-9)) dX3_init_81 tJ7_fill_53178 kRX3_42 pnJ7_fill_53178 rfl ⟨Nat.le_of_ble_eq_true rfl, Nat.le_of_ble_eq_true rfl⟩ ⟨Nat.le_of_ble_eq_true rfl, Nat.le_of_ble_eq_true rfl⟩ (by simp) (by decide) rfl (c_fill E (r5 0) 10 n_z (-9) (by omega)) (fun e1 he1 => ?_)
  obtain ⟨g0, rfl, hg0⟩ := he1
  change n_Ok E mX3_init nR3 84 [(1, .int (nI 0)), (0, .ref h)] [] ((h, .inr (3, [.ref q0, .ref q1, .ref q2, .ref q3, .ref q4, .ref q5, .null, .int 0, .int 0, .int 0, .int 0, .int 0, .int 0])) :: (W0 E q0 uq0 rq0 ++ W2 E q1 uq1 rq1 tq1 ++ W1 E q2 uq2 ++ W1 E q3 uq3 ++ [nr E.2.1 5 q4] ++ [nrr E.2.2.2 5 r5 q5, (r5 0, .inl (E.2.1, 10, .inl g0)), (r5 1, .inl (E.2.1, 10, .inl n_z)), (r5 2, .inl (E.2.1, 10, .inl n_z)), (r5 3, .inl (E.2.1, 10, .inl n_z)), (r5 4, .inl (E.2.1, 10, .inl n_z))]) : va_W) 44 451 (pX3 E h)
  refine n_iinc 1 0 (v := nI 1) [(1, .int (nI 1)), (0, .ref h)] dX3_init_84 rfl (by decide) (by decide) rfl ?_
  refine n_goto 68 dX3_init_87 (by decide) ?_
  refine n_iload 1 0 dX3_init_68 rfl rfl (n_iconst (v := nI 5) dX3_init_69 (by decide) (n_ge 90 dX3_init_70 (by decide) (fun z => absurd z (by decide)) (fun _ => ?_)))
  refine n_aload 0 1 dX3_init_73 rfl rfl ?_
  refine n_getr (j := 0) 5 dX3_init_74 fRX3_39 rfl rfl ?_
  refine n_iload 1 0 dX3_init_77 rfl rfl ?_
  refine n_aald (j := 39) dX3_init_78 rfl (vp_in_nI (by omega) (by omega)) ?_
  refine n_bipush (v := -9) dX3_init_79 (by decide) ?_
  refine n_stat (RZ := nRf) (j := 41) (q := r5 1) (PZ := n_full E 10 (-9)) dX3_init_81 tJ7_fill_53178 kRX3_42 pnJ7_fill_53178 rfl ⟨Nat.le_of_ble_eq_true rfl, Nat.le_of_ble_eq_true rfl⟩ ⟨Nat.le_of_ble_eq_true rfl, Nat.le_of_ble_eq_true rfl⟩ (by simp) (by decide) rfl (c_fill E (r5 1) 10 n_z (-9) (by omega)) (fun e1 he1 => ?_)
  obtain ⟨g1, rfl, hg1⟩ := he1
  change n_Ok E mX3_init nR3 84 [(1, .int (nI 1)), (0, .ref h)] [] ((h, .inr (3, [.ref q0, .ref q1, .ref q2, .ref q3, .ref q4, .ref q5, .null, .int 0, .int 0, .int 0, .int 0, .int 0, .int 0])) :: (W0 E q0 uq0 rq0 ++ W2 E q1 uq1 rq1 tq1 ++ W1 E q2 uq2 ++ W1 E q3 uq3 ++ [nr E.2.1 5 q4] ++ [nrr E.2.2.2 5 r5 q5, (r5 0, .inl (E.2.1, 10, .inl g0)), (r5 1, .inl (E.2.1, 10, .inl g1)), (r5 2, .inl (E.2.1, 10, .inl n_z)), (r5 3, .inl (E.2.1, 10, .inl n_z)), (r5 4, .inl (E.2.1, 10, .inl n_z))]) : va_W) 44 451 (pX3 E h)
  refine n_iinc 1 0 (v := nI 2) [(1, .int (nI 2)), (0, .ref h)] dX3_init_84 rfl (by decide) (by decide) rfl ?_
  refine n_goto 68 dX3_init_87 (by decide) ?_
  refine n_iload 1 0 dX3_init_68 rfl rfl (n_iconst (v := nI 5) dX3_init_69 (by decide) (n_ge 90 dX3_init_70 (by decide) (fun z => absurd z (by decide)) (fun _ => ?_)))
  refine n_aload 0 1 dX3_init_73 rfl rfl ?_
  refine n_getr (j := 0) 5 dX3_init_74 fRX3_39 rfl rfl ?_
  refine n_iload 1 0 dX3_init_77 rfl rfl ?_
  refine n_aald (j := 39) dX3_init_78 rfl (vp_in_nI (by omega) (by omega)) ?_
  refine n_bipush (v := -9) dX3_init_79 (by decide) ?_
  refine n_stat (RZ := nRf) (j := 42) (q := r5 2) (PZ := n_full E 10 (-9)) dX3_init_81 tJ7_fill_53178 kRX3_42 pnJ7_fill_53178 rfl ⟨Nat.le_of_ble_eq_true rfl, Nat.le_of_ble_eq_true rfl⟩ ⟨Nat.le_of_ble_eq_true rfl, Nat.le_of_ble_eq_true rfl⟩ (by simp) (by decide) rfl (c_fill E (r5 2) 10 n_z (-9) (by omega)) (fun e1 he1 => ?_)
  obtain ⟨g2, rfl, hg2⟩ := he1
  change n_Ok E mX3_init nR3 84 [(1, .int (nI 2)), (0, .ref h)] [] ((h, .inr (3, [.ref q0, .ref q1, .ref q2, .ref q3, .ref q4, .ref q5, .null, .int 0, .int 0, .int 0, .int 0, .int 0, .int 0])) :: (W0 E q0 uq0 rq0 ++ W2 E q1 uq1 rq1 tq1 ++ W1 E q2 uq2 ++ W1 E q3 uq3 ++ [nr E.2.1 5 q4] ++ [nrr E.2.2.2 5 r5 q5, (r5 0, .inl (E.2.1, 10, .inl g0)), (r5 1, .inl (E.2.1, 10, .inl g1)), (r5 2, .inl (E.2.1, 10, .inl g2)), (r5 3, .inl (E.2.1, 10, .inl n_z)), (r5 4, .inl (E.2.1, 10, .inl n_z))]) : va_W) 44 451 (pX3 E h)
  refine n_iinc 1 0 (v := nI 3) [(1, .int (nI 3)), (0, .ref h)] dX3_init_84 rfl (by decide) (by decide) rfl ?_
  refine n_goto 68 dX3_init_87 (by decide) ?_
  refine n_iload 1 0 dX3_init_68 rfl rfl (n_iconst (v := nI 5) dX3_init_69 (by decide) (n_ge 90 dX3_init_70 (by decide) (fun z => absurd z (by decide)) (fun _ => ?_)))
  refine n_aload 0 1 dX3_init_73 rfl rfl ?_
  refine n_getr (j := 0) 5 dX3_init_74 fRX3_39 rfl rfl ?_
  refine n_iload 1 0 dX3_init_77 rfl rfl ?_
  refine n_aald (j := 39) dX3_init_78 rfl (vp_in_nI (by omega) (by omega)) ?_
  refine n_bipush (v := -9) dX3_init_79 (by decide) ?_
  refine n_stat (RZ := nRf) (j := 43) (q := r5 3) (PZ := n_full E 10 (-9)) dX3_init_81 tJ7_fill_53178 kRX3_42 pnJ7_fill_53178 rfl ⟨Nat.le_of_ble_eq_true rfl, Nat.le_of_ble_eq_true rfl⟩ ⟨Nat.le_of_ble_eq_true rfl, Nat.le_of_ble_eq_true rfl⟩ (by simp) (by decide) rfl (c_fill E (r5 3) 10 n_z (-9) (by omega)) (fun e1 he1 => ?_)
  obtain ⟨g3, rfl, hg3⟩ := he1
  change n_Ok E mX3_init nR3 84 [(1, .int (nI 3)), (0, .ref h)] [] ((h, .inr (3, [.ref q0, .ref q1, .ref q2, .ref q3, .ref q4, .ref q5, .null, .int 0, .int 0, .int 0, .int 0, .int 0, .int 0])) :: (W0 E q0 uq0 rq0 ++ W2 E q1 uq1 rq1 tq1 ++ W1 E q2 uq2 ++ W1 E q3 uq3 ++ [nr E.2.1 5 q4] ++ [nrr E.2.2.2 5 r5 q5, (r5 0, .inl (E.2.1, 10, .inl g0)), (r5 1, .inl (E.2.1, 10, .inl g1)), (r5 2, .inl (E.2.1, 10, .inl g2)), (r5 3, .inl (E.2.1, 10, .inl g3)), (r5 4, .inl (E.2.1, 10, .inl n_z))]) : va_W) 44 451 (pX3 E h)
  refine n_iinc 1 0 (v := nI 4) [(1, .int (nI 4)), (0, .ref h)] dX3_init_84 rfl (by decide) (by decide) rfl ?_
  refine n_goto 68 dX3_init_87 (by decide) ?_
  refine n_iload 1 0 dX3_init_68 rfl rfl (n_iconst (v := nI 5) dX3_init_69 (by decide) (n_ge 90 dX3_init_70 (by decide) (fun z => absurd z (by decide)) (fun _ => ?_)))
  refine n_aload 0 1 dX3_init_73 rfl rfl ?_
  refine n_getr (j := 0) 5 dX3_init_74 fRX3_39 rfl rfl ?_
  refine n_iload 1 0 dX3_init_77 rfl rfl ?_
  refine n_aald (j := 39) dX3_init_78 rfl (vp_in_nI (by omega) (by omega)) ?_
  refine n_bipush (v := -9) dX3_init_79 (by decide) ?_
  refine n_stat (RZ := nRf) (j := 44) (q := r5 4) (PZ := n_full E 10 (-9)) dX3_init_81 tJ7_fill_53178 kRX3_42 pnJ7_fill_53178 rfl ⟨Nat.le_of_ble_eq_true rfl, Nat.le_of_ble_eq_true rfl⟩ ⟨Nat.le_of_ble_eq_true rfl, Nat.le_of_ble_eq_true rfl⟩ (by simp) (by decide) rfl (c_fill E (r5 4) 10 n_z (-9) (by omega)) (fun e1 he1 => ?_)
  obtain ⟨g4, rfl, hg4⟩ := he1
  change n_Ok E mX3_init nR3 84 [(1, .int (nI 4)), (0, .ref h)] [] ((h, .inr (3, [.ref q0, .ref q1, .ref q2, .ref q3, .ref q4, .ref q5, .null, .int 0, .int 0, .int 0, .int 0, .int 0, .int 0])) :: (W0 E q0 uq0 rq0 ++ W2 E q1 uq1 rq1 tq1 ++ W1 E q2 uq2 ++ W1 E q3 uq3 ++ [nr E.2.1 5 q4] ++ [nrr E.2.2.2 5 r5 q5, (r5 0, .inl (E.2.1, 10, .inl g0)), (r5 1, .inl (E.2.1, 10, .inl g1)), (r5 2, .inl (E.2.1, 10, .inl g2)), (r5 3, .inl (E.2.1, 10, .inl g3)), (r5 4, .inl (E.2.1, 10, .inl g4))]) : va_W) 44 451 (pX3 E h)
  refine n_iinc 1 0 (v := nI 5) [(1, .int (nI 5)), (0, .ref h)] dX3_init_84 rfl (by decide) (by decide) rfl ?_
  refine n_goto 68 dX3_init_87 (by decide) ?_
  refine n_iload 1 0 dX3_init_68 rfl rfl (n_iconst (v := nI 5) dX3_init_69 (by decide) (n_ge 90 dX3_init_70 (by decide) (fun _ => ?_) (fun z => absurd (by decide) z)))
  refine n_aload 0 1 dX3_init_90 rfl rfl ?_
  refine n_bipush (v := 10) dX3_init_91 (by decide) ?_
  refine n_newi 10 dX3_init_93 nAI (by decide) (by decide) (by decide) ⟨Nat.le_of_ble_eq_true rfl, Nat.le_of_ble_eq_true rfl⟩ (fun q45 => ?_)
  refine n_putF (j := 0) 6 ((h, .inr (3, [.ref q0, .ref q1, .ref q2, .ref q3, .ref q4, .ref q5, .ref q45, .int 0, .int 0, .int 0, .int 0, .int 0, .int 0])) :: (W0 E q0 uq0 rq0 ++ W2 E q1 uq1 rq1 tq1 ++ W1 E q2 uq2 ++ W1 E q3 uq3 ++ [nr E.2.1 5 q4] ++ [nrr E.2.2.2 5 r5 q5, (r5 0, .inl (E.2.1, 10, .inl g0)), (r5 1, .inl (E.2.1, 10, .inl g1)), (r5 2, .inl (E.2.1, 10, .inl g2)), (r5 3, .inl (E.2.1, 10, .inl g3)), (r5 4, .inl (E.2.1, 10, .inl g4)), nr E.2.1 10 q45]) : va_W) dX3_init_95 nfRX3_48 rfl rfl rfl rfl (Nat.le_of_ble_eq_true rfl) rfl ?_
  refine n_aload 0 1 dX3_init_98 rfl rfl ?_
  refine n_iconst (v := 0) dX3_init_99 (by decide) ?_
  refine n_puti (j := 0) 7 ((h, .inr (3, [.ref q0, .ref q1, .ref q2, .ref q3, .ref q4, .ref q5, .ref q45, .int 0, .int 0, .int 0, .int 0, .int 0, .int 0])) :: (W0 E q0 uq0 rq0 ++ W2 E q1 uq1 rq1 tq1 ++ W1 E q2 uq2 ++ W1 E q3 uq3 ++ [nr E.2.1 5 q4] ++ [nrr E.2.2.2 5 r5 q5, (r5 0, .inl (E.2.1, 10, .inl g0)), (r5 1, .inl (E.2.1, 10, .inl g1)), (r5 2, .inl (E.2.1, 10, .inl g2)), (r5 3, .inl (E.2.1, 10, .inl g3)), (r5 4, .inl (E.2.1, 10, .inl g4)), nr E.2.1 10 q45]) : va_W) dX3_init_100 pRX3_51 rfl (Nat.le_of_ble_eq_true rfl) rfl ?_
  refine n_aload 0 1 dX3_init_103 rfl rfl ?_
  refine n_iconst (v := 0) dX3_init_104 (by decide) ?_
  refine n_puti (j := 0) 8 ((h, .inr (3, [.ref q0, .ref q1, .ref q2, .ref q3, .ref q4, .ref q5, .ref q45, .int 0, .int 0, .int 0, .int 0, .int 0, .int 0])) :: (W0 E q0 uq0 rq0 ++ W2 E q1 uq1 rq1 tq1 ++ W1 E q2 uq2 ++ W1 E q3 uq3 ++ [nr E.2.1 5 q4] ++ [nrr E.2.2.2 5 r5 q5, (r5 0, .inl (E.2.1, 10, .inl g0)), (r5 1, .inl (E.2.1, 10, .inl g1)), (r5 2, .inl (E.2.1, 10, .inl g2)), (r5 3, .inl (E.2.1, 10, .inl g3)), (r5 4, .inl (E.2.1, 10, .inl g4)), nr E.2.1 10 q45]) : va_W) dX3_init_105 pRX3_55 rfl (Nat.le_of_ble_eq_true rfl) rfl ?_
  refine n_aload 0 1 dX3_init_108 rfl rfl ?_
  refine n_iconst (v := 0) dX3_init_109 (by decide) ?_
  refine n_puti (j := 0) 9 ((h, .inr (3, [.ref q0, .ref q1, .ref q2, .ref q3, .ref q4, .ref q5, .ref q45, .int 0, .int 0, .int 0, .int 0, .int 0, .int 0])) :: (W0 E q0 uq0 rq0 ++ W2 E q1 uq1 rq1 tq1 ++ W1 E q2 uq2 ++ W1 E q3 uq3 ++ [nr E.2.1 5 q4] ++ [nrr E.2.2.2 5 r5 q5, (r5 0, .inl (E.2.1, 10, .inl g0)), (r5 1, .inl (E.2.1, 10, .inl g1)), (r5 2, .inl (E.2.1, 10, .inl g2)), (r5 3, .inl (E.2.1, 10, .inl g3)), (r5 4, .inl (E.2.1, 10, .inl g4)), nr E.2.1 10 q45]) : va_W) dX3_init_110 pRX3_58 rfl (Nat.le_of_ble_eq_true rfl) rfl ?_
  refine n_aload 0 1 dX3_init_113 rfl rfl ?_
  refine n_bipush (v := (-9)) dX3_init_114 (by decide) ?_
  refine n_puti (j := 0) 10 ((h, .inr (3, [.ref q0, .ref q1, .ref q2, .ref q3, .ref q4, .ref q5, .ref q45, .int 0, .int 0, .int 0, .int (-9), .int 0, .int 0])) :: (W0 E q0 uq0 rq0 ++ W2 E q1 uq1 rq1 tq1 ++ W1 E q2 uq2 ++ W1 E q3 uq3 ++ [nr E.2.1 5 q4] ++ [nrr E.2.2.2 5 r5 q5, (r5 0, .inl (E.2.1, 10, .inl g0)), (r5 1, .inl (E.2.1, 10, .inl g1)), (r5 2, .inl (E.2.1, 10, .inl g2)), (r5 3, .inl (E.2.1, 10, .inl g3)), (r5 4, .inl (E.2.1, 10, .inl g4)), nr E.2.1 10 q45]) : va_W) dX3_init_116 pRX3_61 rfl (Nat.le_of_ble_eq_true rfl) rfl ?_
  refine n_aload 0 1 dX3_init_119 rfl rfl ?_
  refine n_bipush (v := (-9)) dX3_init_120 (by decide) ?_
  refine n_puti (j := 0) 11 ((h, .inr (3, [.ref q0, .ref q1, .ref q2, .ref q3, .ref q4, .ref q5, .ref q45, .int 0, .int 0, .int 0, .int (-9), .int (-9), .int 0])) :: (W0 E q0 uq0 rq0 ++ W2 E q1 uq1 rq1 tq1 ++ W1 E q2 uq2 ++ W1 E q3 uq3 ++ [nr E.2.1 5 q4] ++ [nrr E.2.2.2 5 r5 q5, (r5 0, .inl (E.2.1, 10, .inl g0)), (r5 1, .inl (E.2.1, 10, .inl g1)), (r5 2, .inl (E.2.1, 10, .inl g2)), (r5 3, .inl (E.2.1, 10, .inl g3)), (r5 4, .inl (E.2.1, 10, .inl g4)), nr E.2.1 10 q45]) : va_W) dX3_init_122 pRX3_64 rfl (Nat.le_of_ble_eq_true rfl) rfl ?_
  refine n_aload 0 1 dX3_init_125 rfl rfl ?_
  refine n_bipush (v := (-9)) dX3_init_126 (by decide) ?_
  refine n_puti (j := 0) 12 ((h, .inr (3, [.ref q0, .ref q1, .ref q2, .ref q3, .ref q4, .ref q5, .ref q45, .int 0, .int 0, .int 0, .int (-9), .int (-9), .int (-9)])) :: (W0 E q0 uq0 rq0 ++ W2 E q1 uq1 rq1 tq1 ++ W1 E q2 uq2 ++ W1 E q3 uq3 ++ [nr E.2.1 5 q4] ++ [nrr E.2.2.2 5 r5 q5, (r5 0, .inl (E.2.1, 10, .inl g0)), (r5 1, .inl (E.2.1, 10, .inl g1)), (r5 2, .inl (E.2.1, 10, .inl g2)), (r5 3, .inl (E.2.1, 10, .inl g3)), (r5 4, .inl (E.2.1, 10, .inl g4)), nr E.2.1 10 q45]) : va_W) dX3_init_128 pRX3_67 rfl (Nat.le_of_ble_eq_true rfl) rfl ?_
  refine n_vret dX3_init_131 ⟨Nat.le_refl _, Nat.le_refl _⟩ ⟨q0, q1, q2, q3, uq0, rq0, uq1, rq1, tq1, uq2, uq3, r5, (fun k => [q4, q5, q45].getD k 0), (fun k => [g0, g1, g2, g3, g4].getD k n_z), rfl, fun n hn x hx => ?_⟩
  rcases (show n = 0 ∨ n = 1 ∨ n = 2 ∨ n = 3 ∨ n = 4 by omega) with rfl | rfl | rfl | rfl | rfl
  · exact hg0 x hx
  · exact hg1 x hx
  · exact hg2 x hx
  · exact hg3 x hx
  · exact hg4 x hx
