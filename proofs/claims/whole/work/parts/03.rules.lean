/-! THE RULES: a row an instruction -/
section ZR
variable {Y : zY} {pc : Nat} {lv : List (Option Value)} {st : List Value} {D : zM} {P : Option Int32 → zM → Prop}
theorem z_iconst {n : Int} {v : Int32} (hd : decode Y.2.1 pc = .ok (.iconst n, 1)) (hv : Int32.ofInt n = v) (k : z_Ok Y (pc + 1) lv (.int v :: st) D P) : z_Ok Y pc lv st D P := by
  intro G p l e s m args below meth c H locs la C hp hl
  exact lv_iconst C.1 C.2.1 hd hv (k G p l e s m args below meth c H locs la C hp hl)
theorem z_bipush {n : Int} {v : Int32} (hd : decode Y.2.1 pc = .ok (.bipush n, 2)) (hv : (Int8.ofInt n).toInt32 = v) (k : z_Ok Y (pc + 2) lv (.int v :: st) D P) : z_Ok Y pc lv st D P := by
  intro G p l e s m args below meth c H locs la C hp hl
  exact lv_bipush C.1 C.2.1 hd hv (k G p l e s m args below meth c H locs la C hp hl)
theorem z_sipush {n : Int} {v : Int32} (hd : decode Y.2.1 pc = .ok (.sipush n, 3)) (hv : (Int16.ofInt n).toInt32 = v) (k : z_Ok Y (pc + 3) lv (.int v :: st) D P) : z_Ok Y pc lv st D P := by
  intro G p l e s m args below meth c H locs la C hp hl
  exact lv_sipush C.1 C.2.1 hd hv (k G p l e s m args below meth c H locs la C hp hl)
theorem z_ldc {i : Nat} {v : Int32} (hd : decode Y.2.1 pc = .ok (.ldc i, 2)) (hw : Cond.constant Y.1.cls i v ∈ z_T) (k : z_Ok Y (pc + 2) lv (.int v :: st) D P) : z_Ok Y pc lv st D P := by
  intro G p l e s m args below meth c H locs la C hp hl
  exact lv_ldc C.1 C.2.1 C.2.2.2.2.1 (C.2.2.2.2.2.1 _ hw) hd (k G p l e s m args below meth c H locs la C hp hl)
theorem z_ldcw {i : Nat} {v : Int32} (hd : decode Y.2.1 pc = .ok (.ldc_w i, 3)) (hw : Cond.constant Y.1.cls i v ∈ z_T) (k : z_Ok Y (pc + 3) lv (.int v :: st) D P) : z_Ok Y pc lv st D P := by
  intro G p l e s m args below meth c H locs la C hp hl
  exact lv_ldcw C.1 C.2.1 C.2.2.2.2.1 (C.2.2.2.2.2.1 _ hw) hd (k G p l e s m args below meth c H locs la C hp hl)
theorem z_iload_n {q : Fin 4} (i : Nat) {x : Int32} (hd : decode Y.2.1 pc = .ok (.iload_n q, 1)) (hi : (q : Nat) = i) (hx : lv[i]? = some (some (.int x))) (k : z_Ok Y (pc + 1) lv (.int x :: st) D P) : z_Ok Y pc lv st D P := by
  intro G p l e s m args below meth c H locs la C hp hl
  exact lv_iload_n C.1 C.2.1 hd hi (hl.at hx) (k G p l e s m args below meth c H locs la C hp hl)
theorem z_iload {i : Nat} {x : Int32} (hd : decode Y.2.1 pc = .ok (.iload i, 2)) (hx : lv[i]? = some (some (.int x))) (k : z_Ok Y (pc + 2) lv (.int x :: st) D P) : z_Ok Y pc lv st D P := by
  intro G p l e s m args below meth c H locs la C hp hl
  exact lv_iload C.1 C.2.1 hd (hl.at hx) (k G p l e s m args below meth c H locs la C hp hl)
theorem z_aload_n {q : Fin 4} (i : Nat) {x : Nat} (hd : decode Y.2.1 pc = .ok (.aload_n q, 1)) (hi : (q : Nat) = i) (hx : lv[i]? = some (some (.ref x))) (k : z_Ok Y (pc + 1) lv (.ref x :: st) D P) : z_Ok Y pc lv st D P := by
  intro G p l e s m args below meth c H locs la C hp hl
  exact lv_aload_n C.1 C.2.1 hd hi (hl.at hx) (k G p l e s m args below meth c H locs la C hp hl)
theorem z_aload {i : Nat} {x : Nat} (hd : decode Y.2.1 pc = .ok (.aload i, 2)) (hx : lv[i]? = some (some (.ref x))) (k : z_Ok Y (pc + 2) lv (.ref x :: st) D P) : z_Ok Y pc lv st D P := by
  intro G p l e s m args below meth c H locs la C hp hl
  exact lv_aload C.1 C.2.1 hd (hl.at hx) (k G p l e s m args below meth c H locs la C hp hl)
theorem z_istore_n {q : Fin 4} (i : Nat) {x : Int32} (hd : decode Y.2.1 pc = .ok (.istore_n q, 1)) (hi : (q : Nat) = i) (hn : Nat.blt i Y.2.2.1 = true) (k : z_Ok Y (pc + 1) (lv.set i (some (.int x))) st D P) : z_Ok Y pc lv (.int x :: st) D P := by
  intro G p l e s m args below meth c H locs la C hp hl
  exact lv_istore_n C.1 C.2.1 hd hi hl.1 (Nat.le_of_ble_eq_true hn) rfl (fun la' h' => k G p l e s m args below meth c H locs la' C hp (hl.set (v := .int x) rfl h'))
theorem z_istore {i : Nat} {x : Int32} (hd : decode Y.2.1 pc = .ok (.istore i, 2)) (hn : Nat.blt i Y.2.2.1 = true) (k : z_Ok Y (pc + 2) (lv.set i (some (.int x))) st D P) : z_Ok Y pc lv (.int x :: st) D P := by
  intro G p l e s m args below meth c H locs la C hp hl
  exact lv_istore C.1 C.2.1 hd hl.1 (Nat.le_of_ble_eq_true hn) rfl (fun la' h' => k G p l e s m args below meth c H locs la' C hp (hl.set (v := .int x) rfl h'))
theorem z_iinc {i : Nat} {n : Int} {x v : Int32} (hd : decode Y.2.1 pc = .ok (.iinc i n, 3)) (hx : lv[i]? = some (some (.int x))) (hv : x + Int32.ofInt n = v) (hn : Nat.blt i Y.2.2.1 = true) (k : z_Ok Y (pc + 3) (lv.set i (some (.int v))) st D P) : z_Ok Y pc lv st D P := by
  intro G p l e s m args below meth c H locs la C hp hl
  obtain ⟨j, hj⟩ := List.getElem?_of_mem (z_ll_mem (G := G) (lv := lv) (q := (i, .int x)) |>.mpr ⟨.int x, hx, rfl⟩)
  exact lv_iinc C.1 C.2.1 hd hl.1 hj hv (Nat.le_of_ble_eq_true hn) rfl (fun la' h' => k G p l e s m args below meth c H locs la' C hp (hl.set (v := .int v) rfl h'))
theorem z_iadd {x y : Int32} (hd : decode Y.2.1 pc = .ok (.iadd, 1)) (k : z_Ok Y (pc + 1) lv (.int (x + y) :: st) D P) : z_Ok Y pc lv (.int y :: .int x :: st) D P := by
  intro G p l e s m args below meth c H locs la C hp hl
  exact lv_iadd C.1 C.2.1 hd (k G p l e s m args below meth c H locs la C hp hl)
theorem z_isub {x y : Int32} (hd : decode Y.2.1 pc = .ok (.isub, 1)) (k : z_Ok Y (pc + 1) lv (.int (x - y) :: st) D P) : z_Ok Y pc lv (.int y :: .int x :: st) D P := by
  intro G p l e s m args below meth c H locs la C hp hl
  exact lv_isub C.1 C.2.1 hd (k G p l e s m args below meth c H locs la C hp hl)
theorem z_imul {x y : Int32} (hd : decode Y.2.1 pc = .ok (.imul, 1)) (k : z_Ok Y (pc + 1) lv (.int (x * y) :: st) D P) : z_Ok Y pc lv (.int y :: .int x :: st) D P := by
  intro G p l e s m args below meth c H locs la C hp hl
  exact lv_imul C.1 C.2.1 hd (k G p l e s m args below meth c H locs la C hp hl)
theorem z_iand {x y : Int32} (hd : decode Y.2.1 pc = .ok (.iand, 1)) (k : z_Ok Y (pc + 1) lv (.int (x &&& y) :: st) D P) : z_Ok Y pc lv (.int y :: .int x :: st) D P := by
  intro G p l e s m args below meth c H locs la C hp hl
  exact lv_iand C.1 C.2.1 hd (k G p l e s m args below meth c H locs la C hp hl)
theorem z_ior {x y : Int32} (hd : decode Y.2.1 pc = .ok (.ior, 1)) (k : z_Ok Y (pc + 1) lv (.int (x ||| y) :: st) D P) : z_Ok Y pc lv (.int y :: .int x :: st) D P := by
  intro G p l e s m args below meth c H locs la C hp hl
  exact lv_ior C.1 C.2.1 hd (k G p l e s m args below meth c H locs la C hp hl)
theorem z_ixor {x y : Int32} (hd : decode Y.2.1 pc = .ok (.ixor, 1)) (k : z_Ok Y (pc + 1) lv (.int (x ^^^ y) :: st) D P) : z_Ok Y pc lv (.int y :: .int x :: st) D P := by
  intro G p l e s m args below meth c H locs la C hp hl
  exact lv_ixor C.1 C.2.1 hd (k G p l e s m args below meth c H locs la C hp hl)
theorem z_ishl {x y : Int32} (hd : decode Y.2.1 pc = .ok (.ishl, 1)) (k : z_Ok Y (pc + 1) lv (.int (x <<< (y &&& 31)) :: st) D P) : z_Ok Y pc lv (.int y :: .int x :: st) D P := by
  intro G p l e s m args below meth c H locs la C hp hl
  exact lv_ishl C.1 C.2.1 hd (k G p l e s m args below meth c H locs la C hp hl)
theorem z_ishr {x y : Int32} (hd : decode Y.2.1 pc = .ok (.ishr, 1)) (k : z_Ok Y (pc + 1) lv (.int (x >>> (y &&& 31)) :: st) D P) : z_Ok Y pc lv (.int y :: .int x :: st) D P := by
  intro G p l e s m args below meth c H locs la C hp hl
  exact lv_ishr C.1 C.2.1 hd (k G p l e s m args below meth c H locs la C hp hl)
theorem z_iushr {x y : Int32} (hd : decode Y.2.1 pc = .ok (.iushr, 1)) (k : z_Ok Y (pc + 1) lv (.int ((x.toUInt32 >>> (y.toUInt32 &&& Int32.toUInt32 31)).toInt32) :: st) D P) : z_Ok Y pc lv (.int y :: .int x :: st) D P := by
  intro G p l e s m args below meth c H locs la C hp hl
  exact lv_iushr C.1 C.2.1 hd rfl (k G p l e s m args below meth c H locs la C hp hl)
theorem z_ineg {x : Int32} (hd : decode Y.2.1 pc = .ok (.ineg, 1)) (k : z_Ok Y (pc + 1) lv (.int (-x) :: st) D P) : z_Ok Y pc lv (.int x :: st) D P := by
  intro G p l e s m args below meth c H locs la C hp hl
  exact lv_ineg C.1 C.2.1 hd (k G p l e s m args below meth c H locs la C hp hl)
theorem z_idiv {x y : Int32} (hd : decode Y.2.1 pc = .ok (.idiv, 1)) (hne : ¬ y = 0) (k : z_Ok Y (pc + 1) lv (.int (x / y) :: st) D P) : z_Ok Y pc lv (.int y :: .int x :: st) D P := by
  intro G p l e s m args below meth c H locs la C hp hl
  exact lv_idiv C.1 C.2.1 hd hne (k G p l e s m args below meth c H locs la C hp hl)
theorem z_irem {x y : Int32} (hd : decode Y.2.1 pc = .ok (.irem, 1)) (hne : ¬ y = 0) (k : z_Ok Y (pc + 1) lv (.int (x - x / y * y) :: st) D P) : z_Ok Y pc lv (.int y :: .int x :: st) D P := by
  intro G p l e s m args below meth c H locs la C hp hl
  exact lv_irem C.1 C.2.1 hd hne (k G p l e s m args below meth c H locs la C hp hl)
theorem z_dup {v : Value} (hd : decode Y.2.1 pc = .ok (.dup, 1)) (hc : v.category = 1) (k : z_Ok Y (pc + 1) lv (v :: v :: st) D P) : z_Ok Y pc lv (v :: st) D P := by
  intro G p l e s m args below meth c H locs la C hp hl
  exact lv_dup C.1 C.2.1 hd ((z_v_cat G v).trans hc) (k G p l e s m args below meth c H locs la C hp hl)
theorem z_dup2 {v w : Value} (hd : decode Y.2.1 pc = .ok (.dup2, 1)) (hc : v.category = 1) (hw : w.category = 1) (k : z_Ok Y (pc + 1) lv (v :: w :: v :: w :: st) D P) : z_Ok Y pc lv (v :: w :: st) D P := by
  intro G p l e s m args below meth c H locs la C hp hl
  exact lv_dup2_11 C.1 C.2.1 hd ((z_v_cat G v).trans hc) ((z_v_cat G w).trans hw) (k G p l e s m args below meth c H locs la C hp hl)
theorem z_pop {v : Value} (hd : decode Y.2.1 pc = .ok (.pop, 1)) (hc : v.category = 1) (k : z_Ok Y (pc + 1) lv st D P) : z_Ok Y pc lv (v :: st) D P := by
  intro G p l e s m args below meth c H locs la C hp hl
  exact lv_pop C.1 C.2.1 hd ((z_v_cat G v).trans hc) (k G p l e s m args below meth c H locs la C hp hl)
theorem z_goto {off : Int} (tgt : Nat) (hd : decode Y.2.1 pc = .ok (.goto off, 3)) (ht : (pc : Int) + off = (tgt : Int)) (k : z_Ok Y tgt lv st D P) : z_Ok Y pc lv st D P := by
  intro G p l e s m args below meth c H locs la C hp hl
  exact lv_goto C.1 C.2.1 hd ht (k G p l e s m args below meth c H locs la C hp hl)
theorem z_if_eq {x : Int32} {off : Int} (tgt : Nat) (hd : decode Y.2.1 pc = .ok (.ifCond .eq off, 3)) (ht : (pc : Int) + off = (tgt : Int)) (kt : x = 0 → z_Ok Y tgt lv st D P) (kf : ¬ x = 0 → z_Ok Y (pc + 3) lv st D P) : z_Ok Y pc lv (.int x :: st) D P := by
  intro G p l e s m args below meth c H locs la C hp hl
  exact lv_if_eq C.1 C.2.1 hd ht (fun h => kt h G p l e s m args below meth c H locs la C hp hl) (fun h => kf h G p l e s m args below meth c H locs la C hp hl)
theorem z_if_ne {x : Int32} {off : Int} (tgt : Nat) (hd : decode Y.2.1 pc = .ok (.ifCond .ne off, 3)) (ht : (pc : Int) + off = (tgt : Int)) (kt : ¬ x = 0 → z_Ok Y tgt lv st D P) (kf : x = 0 → z_Ok Y (pc + 3) lv st D P) : z_Ok Y pc lv (.int x :: st) D P := by
  intro G p l e s m args below meth c H locs la C hp hl
  exact lv_if_ne C.1 C.2.1 hd ht (fun h => kt h G p l e s m args below meth c H locs la C hp hl) (fun h => kf h G p l e s m args below meth c H locs la C hp hl)
theorem z_if_lt {x : Int32} {off : Int} (tgt : Nat) (hd : decode Y.2.1 pc = .ok (.ifCond .lt off, 3)) (ht : (pc : Int) + off = (tgt : Int)) (kt : x < 0 → z_Ok Y tgt lv st D P) (kf : ¬ x < 0 → z_Ok Y (pc + 3) lv st D P) : z_Ok Y pc lv (.int x :: st) D P := by
  intro G p l e s m args below meth c H locs la C hp hl
  exact lv_if_lt C.1 C.2.1 hd ht (fun h => kt h G p l e s m args below meth c H locs la C hp hl) (fun h => kf h G p l e s m args below meth c H locs la C hp hl)
theorem z_if_ge {x : Int32} {off : Int} (tgt : Nat) (hd : decode Y.2.1 pc = .ok (.ifCond .ge off, 3)) (ht : (pc : Int) + off = (tgt : Int)) (kt : 0 ≤ x → z_Ok Y tgt lv st D P) (kf : ¬ 0 ≤ x → z_Ok Y (pc + 3) lv st D P) : z_Ok Y pc lv (.int x :: st) D P := by
  intro G p l e s m args below meth c H locs la C hp hl
  exact lv_if_ge C.1 C.2.1 hd ht (fun h => kt h G p l e s m args below meth c H locs la C hp hl) (fun h => kf h G p l e s m args below meth c H locs la C hp hl)
theorem z_if_gt {x : Int32} {off : Int} (tgt : Nat) (hd : decode Y.2.1 pc = .ok (.ifCond .gt off, 3)) (ht : (pc : Int) + off = (tgt : Int)) (kt : 0 < x → z_Ok Y tgt lv st D P) (kf : ¬ 0 < x → z_Ok Y (pc + 3) lv st D P) : z_Ok Y pc lv (.int x :: st) D P := by
  intro G p l e s m args below meth c H locs la C hp hl
  exact lv_if_gt C.1 C.2.1 hd ht (fun h => kt h G p l e s m args below meth c H locs la C hp hl) (fun h => kf h G p l e s m args below meth c H locs la C hp hl)
theorem z_if_le {x : Int32} {off : Int} (tgt : Nat) (hd : decode Y.2.1 pc = .ok (.ifCond .le off, 3)) (ht : (pc : Int) + off = (tgt : Int)) (kt : x ≤ 0 → z_Ok Y tgt lv st D P) (kf : ¬ x ≤ 0 → z_Ok Y (pc + 3) lv st D P) : z_Ok Y pc lv (.int x :: st) D P := by
  intro G p l e s m args below meth c H locs la C hp hl
  exact lv_if_le C.1 C.2.1 hd ht (fun h => kt h G p l e s m args below meth c H locs la C hp hl) (fun h => kf h G p l e s m args below meth c H locs la C hp hl)
theorem z_icmp_eq {x y : Int32} {off : Int} (tgt : Nat) (hd : decode Y.2.1 pc = .ok (.if_icmp .eq off, 3)) (ht : (pc : Int) + off = (tgt : Int)) (kt : x = y → z_Ok Y tgt lv st D P) (kf : ¬ x = y → z_Ok Y (pc + 3) lv st D P) : z_Ok Y pc lv (.int y :: .int x :: st) D P := by
  intro G p l e s m args below meth c H locs la C hp hl
  exact lv_icmp_eq C.1 C.2.1 hd ht (fun h => kt h G p l e s m args below meth c H locs la C hp hl) (fun h => kf h G p l e s m args below meth c H locs la C hp hl)
theorem z_icmp_ne {x y : Int32} {off : Int} (tgt : Nat) (hd : decode Y.2.1 pc = .ok (.if_icmp .ne off, 3)) (ht : (pc : Int) + off = (tgt : Int)) (kt : ¬ x = y → z_Ok Y tgt lv st D P) (kf : x = y → z_Ok Y (pc + 3) lv st D P) : z_Ok Y pc lv (.int y :: .int x :: st) D P := by
  intro G p l e s m args below meth c H locs la C hp hl
  exact lv_icmp_ne C.1 C.2.1 hd ht (fun h => kt h G p l e s m args below meth c H locs la C hp hl) (fun h => kf h G p l e s m args below meth c H locs la C hp hl)
theorem z_icmp_lt {x y : Int32} {off : Int} (tgt : Nat) (hd : decode Y.2.1 pc = .ok (.if_icmp .lt off, 3)) (ht : (pc : Int) + off = (tgt : Int)) (kt : x < y → z_Ok Y tgt lv st D P) (kf : ¬ x < y → z_Ok Y (pc + 3) lv st D P) : z_Ok Y pc lv (.int y :: .int x :: st) D P := by
  intro G p l e s m args below meth c H locs la C hp hl
  exact lv_icmp_lt C.1 C.2.1 hd ht (fun h => kt h G p l e s m args below meth c H locs la C hp hl) (fun h => kf h G p l e s m args below meth c H locs la C hp hl)
theorem z_icmp_ge {x y : Int32} {off : Int} (tgt : Nat) (hd : decode Y.2.1 pc = .ok (.if_icmp .ge off, 3)) (ht : (pc : Int) + off = (tgt : Int)) (kt : y ≤ x → z_Ok Y tgt lv st D P) (kf : ¬ y ≤ x → z_Ok Y (pc + 3) lv st D P) : z_Ok Y pc lv (.int y :: .int x :: st) D P := by
  intro G p l e s m args below meth c H locs la C hp hl
  exact lv_icmp_ge C.1 C.2.1 hd ht (fun h => kt h G p l e s m args below meth c H locs la C hp hl) (fun h => kf h G p l e s m args below meth c H locs la C hp hl)
theorem z_icmp_gt {x y : Int32} {off : Int} (tgt : Nat) (hd : decode Y.2.1 pc = .ok (.if_icmp .gt off, 3)) (ht : (pc : Int) + off = (tgt : Int)) (kt : y < x → z_Ok Y tgt lv st D P) (kf : ¬ y < x → z_Ok Y (pc + 3) lv st D P) : z_Ok Y pc lv (.int y :: .int x :: st) D P := by
  intro G p l e s m args below meth c H locs la C hp hl
  exact lv_icmp_gt C.1 C.2.1 hd ht (fun h => kt h G p l e s m args below meth c H locs la C hp hl) (fun h => kf h G p l e s m args below meth c H locs la C hp hl)
theorem z_icmp_le {x y : Int32} {off : Int} (tgt : Nat) (hd : decode Y.2.1 pc = .ok (.if_icmp .le off, 3)) (ht : (pc : Int) + off = (tgt : Int)) (kt : x ≤ y → z_Ok Y tgt lv st D P) (kf : ¬ x ≤ y → z_Ok Y (pc + 3) lv st D P) : z_Ok Y pc lv (.int y :: .int x :: st) D P := by
  intro G p l e s m args below meth c H locs la C hp hl
  exact lv_icmp_le C.1 C.2.1 hd ht (fun h => kt h G p l e s m args below meth c H locs la C hp hl) (fun h => kf h G p l e s m args below meth c H locs la C hp hl)
theorem z_tabOut {dflt lo hi : Int} {offs : Array Int} {len : Nat} {x : Int32} (tgt : Nat) (hd : decode Y.2.1 pc = .ok (.tableswitch dflt lo hi offs, len)) (h : x.toInt < lo ∨ hi < x.toInt) (ht : (pc : Int) + dflt = (tgt : Int)) (k : z_Ok Y tgt lv st D P) : z_Ok Y pc lv (.int x :: st) D P := by
  intro G p l e s m args below meth c H locs la C hp hl
  exact lv_tableOut C.1 C.2.1 hd h ht (k G p l e s m args below meth c H locs la C hp hl)
theorem z_tabIn {dflt lo hi : Int} {offs : Array Int} {len : Nat} {x : Int32} {off : Int} (tgt : Nat) (hd : decode Y.2.1 pc = .ok (.tableswitch dflt lo hi offs, len)) (h1 : ¬ x.toInt < lo) (h2 : ¬ hi < x.toInt) (ho : offs[(x.toInt - lo).toNat]? = some off) (ht : (pc : Int) + off = (tgt : Int)) (k : z_Ok Y tgt lv st D P) : z_Ok Y pc lv (.int x :: st) D P := by
  intro G p l e s m args below meth c H locs la C hp hl
  exact lv_tableIn C.1 C.2.1 hd h1 h2 ho ht (k G p l e s m args below meth c H locs la C hp hl)
theorem z_look {dflt : Int} {ps : Array (Int × Int)} {len : Nat} {x : Int32} {off : Int} (tgt : Nat) (hd : decode Y.2.1 pc = .ok (.lookupswitch dflt ps, len)) (hp : (ps.toList.zip (ps.toList.drop 1)).all (fun (a, next) => a.1 < next.1) = true) (ho : Op.lookupswitch.offset ps.toList dflt x.toInt = off) (ht : (pc : Int) + off = (tgt : Int)) (k : z_Ok Y tgt lv st D P) : z_Ok Y pc lv (.int x :: st) D P := by
  intro G p l e s m args below meth c H locs la C hp' hl
  exact lv_lookup C.1 C.2.1 hd hp ho ht (k G p l e s m args below meth c H locs la C hp' hl)
/-- a field's word: the class's number, its table, the field's number -/
def z_F (own : String) (idx : Nat) (ci : Nat) (k : Nat) : Prop := ∃ (C : String) (T : u_T) (N : Nat), vwCl[ci]? = some (C, T, N) ∧ k < N ∧ (∀ w ∈ u_ws C T N, w ∈ z_T) ∧ Cond.fieldLink own idx (T k).1 (T k).2.1 (T k).2.2.1 ∈ z_T
theorem z_getr {idx q ci : Nat} {fs : List (Option Nat)} (k r : Nat) (hd : decode Y.2.1 pc = .ok (.getfield idx, 3)) (hF : z_F Y.1.cls idx ci k) (hs : z_sh[q]? = some (.inl (ci, fs))) (hk : fs[k]? = some (some r)) (kk : z_Ok Y (pc + 3) lv (.ref r :: st) D P) : z_Ok Y pc lv (.ref q :: st) D P := by
  intro G p l e s m args below meth c H locs la C hp hl
  obtain ⟨CN, T, N, h1, h2, h3, h4⟩ := hF
  exact va_get (D := G.2.2.2.2) (ci := ci) (v := .ref (G.1 r)) C.1 C.2.1 C.2.2.2.2.2.1 h3 C.2.2.2.2.1 C.2.2.2.2.2.2.2.1 hp.1 q (z_at hs) h1 k h2 (C.2.2.2.2.2.1 _ h4) (fun _ h => h) (z_fld_at hk) hd (kk G p l e s m args below meth c H locs la C hp hl)
theorem z_geti {idx q ci : Nat} {fs : List (Option Nat)} (k : Nat) (hd : decode Y.2.1 pc = .ok (.getfield idx, 3)) (hF : z_F Y.1.cls idx ci k) (hs : z_sh[q]? = some (.inl (ci, fs))) (hk : fs[k]? = some none) (kk : z_Ok Y (pc + 3) lv (.int (D q k) :: st) D P) : z_Ok Y pc lv (.ref q :: st) D P := by
  intro G p l e s m args below meth c H locs la C hp hl
  obtain ⟨CN, T, N, h1, h2, h3, h4⟩ := hF
  exact va_get (D := G.2.2.2.2) (ci := ci) (v := .int (D q k)) C.1 C.2.1 C.2.2.2.2.2.1 h3 C.2.2.2.2.1 C.2.2.2.2.2.2.2.1 hp.1 q (z_at hs) h1 k h2 (C.2.2.2.2.2.1 _ h4) (fun _ h => h) (z_fld_at hk) hd (kk G p l e s m args below meth c H locs la C hp hl)
/-- a number's field can be written: its type is int, it isn't final -/
def z_P (own : String) (idx : Nat) (ci : Nat) (k : Nat) : Prop := ∃ (C : String) (T : u_T) (N : Nat) (ty : Nat → FieldType), vwCl[ci]? = some (C, T, N) ∧ k < N ∧ (∀ w ∈ u_ws C T N, w ∈ z_T) ∧ Cond.fieldLink own idx (T k).1 (T k).2.1 (T k).2.2.1 ∈ z_T ∧ (∀ k, k < N → parseFieldDescriptor (T k).2.2.1 = some (ty k)) ∧ (∀ a, a < N → ∀ b, b < N → a ≠ b → (T a).2.1 ≠ (T b).2.1) ∧ (T k).2.2.2 = false ∧ ty k = .int
theorem z_put {idx q ci : Nat} {fs : List (Option Nat)} (k : Nat) {v : Int32} (hd : decode Y.2.1 pc = .ok (.putfield idx, 3)) (hF : z_P Y.1.cls idx ci k) (hs : z_sh[q]? = some (.inl (ci, fs))) (hk : fs[k]? = some none) (kk : z_Ok Y (pc + 3) lv st (z_up D q k v) P) : z_Ok Y pc lv (.int v :: .ref q :: st) D P := by
  intro G p l e s m args below meth c H locs la C hp hl
  obtain ⟨CN, T, N, ty, h1, h2, h3, h4, h5, h6, h7, h8⟩ := hF
  have hln : k < (z_fld G.1 (D q) fs).length := by
    unfold z_fld
    rw [List.length_mapIdx]
    exact (List.getElem?_eq_some_iff.mp hk).1
  refine va_put (D := G.2.2.2.2) (ci := ci) (v := .int v) (ty := .int) C.1 C.2.1 C.2.2.2.2.2.1 h3 ty h5 h6 C.2.2.2.2.1 C.2.2.2.2.2.2.2.1 hp.1 (z_D C.2.2.2.2.2.2.2.2.2 D) hp.2 q (z_at hs) h1 k h2 (C.2.2.2.2.2.1 _ h4) (fun _ h => h) h7 (by rw [h5 k h2, h8]) rfl rfl hln hd (fun H1 locs1 hP _ hS => ?_)
  refine kk G p l e s m args below meth c H1 locs1 la C ⟨?_, hS⟩ hl
  have e1 := z_W_row (G := G) (D := D) (q := q) (f := upd (D q) k v) hs
  have e2 : z_cell G (upd (D q) k v) (.inl (ci, fs)) = .inr (ci, (z_fld G.1 (D q) fs).set k (.int v)) := by
    show (Sum.inr (ci, z_fld G.1 (upd (D q) k v) fs) : va_E) = _
    rw [z_fld_set hk]
  rw [e2] at e1
  rw [e1] at hP
  exact hP
theorem z_iald {q n : Nat} {i : Int32} (hd : decode Y.2.1 pc = .ok (.iaload, 1)) (hs : z_sh[q]? = some (.inr (.inl (0, n)))) (hi : vp_in i n) (kk : z_Ok Y (pc + 1) lv (.int (D q i.toNatClampNeg) :: st) D P) : z_Ok Y pc lv (.int i :: .ref q :: st) D P := by
  intro G p l e s m args below meth c H locs la C hp hl
  exact va_iald C.1 C.2.1 C.2.2.2.2.2.2.2.1 hp.1 q 0 (z_at hs) rfl hi hd (kk G p l e s m args below meth c H locs la C hp hl)
theorem z_bald {q n : Nat} {i : Int32} (hd : decode Y.2.1 pc = .ok (.baload, 1)) (hs : z_sh[q]? = some (.inr (.inl (1, n)))) (hi : vp_in i n) (kk : z_Ok Y (pc + 1) lv (.int (D q i.toNatClampNeg) :: st) D P) : z_Ok Y pc lv (.int i :: .ref q :: st) D P := by
  intro G p l e s m args below meth c H locs la C hp hl
  exact va_zald C.1 C.2.1 C.2.2.2.2.2.2.2.1 hp.1 q 1 (z_at hs) rfl hi hd (kk G p l e s m args below meth c H locs la C hp hl)
theorem z_iast {q n : Nat} {i x : Int32} (hd : decode Y.2.1 pc = .ok (.iastore, 1)) (hs : z_sh[q]? = some (.inr (.inl (0, n)))) (hi : vp_in i n) (kk : z_Ok Y (pc + 1) lv st (z_up D q i.toNatClampNeg x) P) : z_Ok Y pc lv (.int x :: .int i :: .ref q :: st) D P := by
  intro G p l e s m args below meth c H locs la C hp hl
  refine va_iast C.1 C.2.1 C.2.2.2.2.2.2.2.1 hp.1 (z_D C.2.2.2.2.2.2.2.2.2 D) hp.2 q 0 (z_at hs) rfl hi hd (fun H1 locs1 hP _ hS => ?_)
  refine kk G p l e s m args below meth c H1 locs1 la C ⟨?_, hS⟩ hl
  have e1 := z_W_row (G := G) (D := D) (q := q) (f := upd (D q) i.toNatClampNeg x) hs
  exact e1 ▸ hP
theorem z_bast {q n : Nat} {i x : Int32} (hd : decode Y.2.1 pc = .ok (.bastore, 1)) (hs : z_sh[q]? = some (.inr (.inl (1, n)))) (hi : vp_in i n) (hn : vp_nar .boolean x = x) (kk : z_Ok Y (pc + 1) lv st (z_up D q i.toNatClampNeg x) P) : z_Ok Y pc lv (.int x :: .int i :: .ref q :: st) D P := by
  intro G p l e s m args below meth c H locs la C hp hl
  refine va_zast C.1 C.2.1 C.2.2.2.2.2.2.2.1 hp.1 (z_D C.2.2.2.2.2.2.2.2.2 D) hp.2 q 1 (z_at hs) rfl hi hd (fun H1 locs1 hP _ hS => ?_)
  refine kk G p l e s m args below meth c H1 locs1 la C ⟨?_, hS⟩ hl
  have e1 := z_W_row (G := G) (D := D) (q := q) (f := upd (D q) i.toNatClampNeg x) hs
  rw [hn] at hP
  exact e1 ▸ hP
theorem z_aald {q n b : Nat} {i : Int32} (hd : decode Y.2.1 pc = .ok (.aaload, 1)) (hs : z_sh[q]? = some (.inr (.inr (n, b)))) (hi : vp_in i n) (kk : z_Ok Y (pc + 1) lv (.ref (b + i.toNatClampNeg) :: st) D P) : z_Ok Y pc lv (.int i :: .ref q :: st) D P := by
  intro G p l e s m args below meth c H locs la C hp hl
  have hlt : i.toNatClampNeg < n := Nat.not_le.mp fun q => hi (Or.inr q)
  have hc := hp.1 q _ (z_at hs)
  have hK := (C.2.2.2.2.2.2.2.1.2 2 _ rfl).1 n (fun j => va_rf (if j < n then some (G.1 (b + j)) else none))
  refine W.aald (v := .ref (G.1 (b + i.toNatClampNeg))) (ty := .array .int) C.1 C.2.1 hc hK rfl (fun q => by cases q) (by show ¬ (i < 0 ∨ (arrV _ _ _).slots.size ≤ _); rw [arrV_size]; exact hi) (by show (arrV _ _ _).slots[_]? = _; rw [arrV_read _ _ hlt]; simp [hlt, va_rf]) rfl rfl hd (kk G p l e s m args below meth c H locs la C hp hl)
theorem z_alen {q t n : Nat} {v : Int32} (hd : decode Y.2.1 pc = .ok (.arraylength, 1)) (hs : z_sh[q]? = some (.inr (.inl (t, n)))) (ht : t = 0) (hv : Int32.ofNat n = v) (kk : z_Ok Y (pc + 1) lv (.int v :: st) D P) : z_Ok Y pc lv (.ref q :: st) D P := by
  intro G p l e s m args below meth c H locs la C hp hl
  subst ht
  exact va_alen C.1 C.2.1 C.2.2.2.2.2.2.2.1 hp.1 q 0 (z_at hs) (ty := .int) rfl hv hd (kk G p l e s m args below meth c H locs la C hp hl)
theorem z_ret {v : Int32} {ty : FieldType} (hd : decode Y.2.1 pc = .ok (.ireturn, 1)) (hr : Y.2.2.2.1 = some ty) (hn : narrow ty (.int v) = .int v) (hP : P (some v) D) : z_Ok Y pc lv [.int v] D P := by
  intro G p l e s m args below meth c H locs la C hp hl
  exact W.zret (v := v) C.1 C.2.1 (C.2.2.1.trans hr) hn (fun t ht _ => ⟨⟨some v, D, rfl, hP, by rw [ht]; exact hp.1⟩, hp.2.F ht⟩) hp.2.2.2 hd C.2.2.2.2.2.2.1
theorem z_vret (hd : decode Y.2.1 pc = .ok (.return_, 1)) (hr : Y.2.2.2.1 = none) (hP : P none D) : z_Ok Y pc lv [] D P := by
  intro G p l e s m args below meth c H locs la C hp hl
  exact W.vret C.1 C.2.1 (C.2.2.1.trans hr) (fun t ht _ => ⟨⟨none, D, rfl, hP, by rw [ht]; exact hp.1⟩, hp.2.F ht⟩) hp.2.2.2 hd C.2.2.2.2.2.2.1
theorem z_weak {P' : Option Int32 → zM → Prop} (h : z_Ok Y pc lv st D P) (hP : ∀ r D', P r D' → P' r D') : z_Ok Y pc lv st D P' := by
  intro G p l e s m args below meth c H locs la C hp hl T hT X
  obtain ⟨t, h1, o, h2, h3, h4, h5⟩ := h G p l e s m args below meth c H locs la C hp hl T hT X
  obtain ⟨⟨r, D', a1, a2, a3⟩, a4⟩ := h4
  exact ⟨t, h1, o, h2, h3, ⟨⟨r, D', a1, hP r D' a2, a3⟩, a4⟩, h5⟩
end ZR
