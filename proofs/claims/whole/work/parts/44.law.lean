/-! THE CLAIM OUT OF ONE WALK OF THE LAW'S BODY. Your part is whole_start (and what it stands on); all else here is the same for every law, but numbers. -/
def R_law : String := "WaySignsLaw"
def lw_P (b : Addr) (xs : List Int32) (args : Array Value) (s : State) : Prop := args = #[.ref b] ∧ s.IntsAt b xs ∧ xs.length ≤ 2048 ∧ (Jvm.Cond.and given_1 narrow_1).before args s = true
def lw_Q (_ : Array Value) (s : State) (o : Outcome) (t : State) : Prop := o = .returned (some (.int 1)) ∧ Framed s o t [] 600000 7302250
def lw_Z (below : List Frame) (a : Array Value) (s : State) : State → Prop := fun t => ∃ o, t.status = .running ∧ Ended t below o ∧ lw_Q a s o t
/-- the law's own end, with 1 on the stack, nothing written that was there before, its room as the claim has it -/
theorem lw_ret {p : Program} {l : Launch} {e : Env} {s : State} {m : MethodId} {below : List Frame} {meth : Method} {c : Code} {b : Nat} (hx : p.tables.exec = Jvm.exec) (hb : c.code = code) (hr : meth.sig.returnType = ret) (hlocks : meth.locks = false) {pc : Nat} {H : Heap} {ls : Array Slot} (hdg : decode code pc = .ok (.ireturn, 1)) : W p l e room_1 s m #[Value.ref b] below meth c H [] 600000 7302250 (lw_Z below #[Value.ref b] s) (F0 m pc ls [.int 1]) := by
  intro T hT X
  obtain ⟨fs, hret, hrun, hended, hW, hframe⟩ := X.leave (v := some (.int 1)) (hlocks := hlocks) (fun h => by rw [hr] at h; cases h)
  have hmeth' : T.vm.method? m = some meth := X.method'
  refine ⟨T.setFrames fs, ?_, .returned (some (.int 1)), hrun, hended, rfl, ⟨_, rfl⟩, hW, hframe⟩
  jvm_step X.here [X.here.top, hx, hb, hdg, hmeth', hr, ret, narrow_b1]
  (try refine ⟨rfl, ?_⟩); (try refine ⟨rfl, ?_⟩)
  first | (intro acts; rw [hret _ acts rfl rfl rfl]) | rw [hret _ _ rfl rfl rfl]
  exact Steps.refl _
/-- what holds at the law's entry: the machine, the code, the tables' words (any of lw_tbl by 'hts w (by decide +kernel)'), the script of L ints xs at the cell b, what the Statement gives of the start (any of its parts by flat_of_before) -/
def lw_At (p : Program) (s : State) (m : MethodId) (meth : Method) (c : Code) (b L : Nat) (xs : Nat → Int32) : Prop :=
  p.tables.exec = Jvm.exec ∧ c.code = code ∧ meth.sig.returnType = ret ∧ c.maxLocals = 4 ∧ s.vm.findClass R_law = some m.cls ∧ (∀ w ∈ lw_tbl, w.before #[Value.ref b] s = true) ∧ va_X b L xs s s.heap ∧ b < s.heap.size ∧ meth.locks = false ∧ (Jvm.Cond.and given_1 narrow_1).before #[Value.ref b] s = true
/-! THE LAW: rules over one fixed entry; the script's place is 59 -/
def zV (G : zG) (p : Program) (s : State) (m : MethodId) (meth : Method) (c : Code) (b L : Nat) (xs : Nat → Int32) : Prop :=
  lw_At p s m meth c b L xs ∧ z_St G s ∧ (∀ k, k < 59 → s.heap.size ≤ G.1 k) ∧ G.1 59 = b ∧ L ≤ 2048
def zL (G : zG) (p : Program) (l : Launch) (e : Env) (s : State) (m : MethodId) (below : List Frame) (meth : Method) (c : Code) (b : Nat) (pc : Nat) (lv : List (Option Value)) (st : List Value) (D : zM) : Prop :=
  ∀ (H : Heap) (locs : List Loc) (la : Array Slot), va_P G.2.2.2.2 vwCl (z_W G D) H → va_S (fun q => s.heap.size ≤ q) s.heap H locs → z_Lv G la 4 lv →
    W p l e room_1 s m #[Value.ref b] below meth c H locs 59 2000 (lw_Z below #[Value.ref b] s) (F0 m pc la (st.map (z_v G)))
def lwv (i : Nat) : List (Option Value) := [some (.ref 59), some (.ref 0), some (.ref 46), some (.int (nI i))]
section ZLW
variable {G : zG} {p : Program} {l : Launch} {e : Env} {s : State} {m : MethodId} {below : List Frame} {meth : Method} {c : Code} {b L : Nat} {xs : Nat → Int32} {pc : Nat} {lv : List (Option Value)} {st : List Value} {D : zM}
theorem zV.hx (C : zV G p s m meth c b L xs) : p.tables.exec = Jvm.exec := C.1.1
theorem zV.hb (C : zV G p s m meth c b L xs) : c.code = cL_law := C.1.2.1
theorem zV.hts (C : zV G p s m meth c b L xs) : ∀ w ∈ z_T, w.before #[Value.ref b] s = true := fun w hw => C.1.2.2.2.2.2.1 w (List.mem_filter.mp hw).1
theorem l_aload (C : zV G p s m meth c b L xs) {q : Fin 4} (i : Nat) {x : Nat} (hd : decode cL_law pc = .ok (.aload_n q, 1)) (hi : (q : Nat) = i) (hx : lv[i]? = some (some (.ref x))) (k : zL G p l e s m below meth c b (pc + 1) lv (.ref x :: st) D) : zL G p l e s m below meth c b pc lv st D :=
  fun H locs la hP hS hl => lv_aload_n C.hx C.hb hd hi (hl.at hx) (k H locs la hP hS hl)
theorem l_arg (C : zV G p s m meth c b L xs) {i : Nat} {n : Int} (j : Nat) (h0 : decode cL_law pc = .ok (.aload_n 0, 1)) (h1 : decode cL_law (pc + 1) = .ok (.iload_n 3, 1)) (h2 : decode cL_law (pc + 2) = .ok (.iconst n, 1)) (h3 : decode cL_law (pc + 3) = .ok (.iadd, 1)) (h4 : decode cL_law (pc + 4) = .ok (.iaload, 1)) (hn : Int32.ofInt n = nI j) (hj : i + j < L)
    (k : zL G p l e s m below meth c b (pc + 5) (lwv i) (.int (xs (i + j)) :: st) D) : zL G p l e s m below meth c b pc (lwv i) st D := fun H locs la hP hS hl => by
  have hL := C.2.2.2.2
  have hb59 : G.1 59 = b := C.2.2.2.1
  have ec : (nI (i + j)).toNatClampNeg = i + j := nI_clamp (by omega)
  refine lv_aload_n (x := b) C.hx C.hb h0 rfl (by have := hl.at (i := 0) (v := .ref 59) rfl; rw [show z_v G (.ref 59) = .ref b from congrArg Value.ref hb59] at this; exact this) ?_
  refine lv_iload_n C.hx C.hb h1 rfl (hl.at (i := 3) (v := .int (nI i)) rfl) ?_
  refine lv_iconst C.hx C.hb h2 hn ?_
  refine lv_iadd C.hx C.hb h3 ?_
  rw [nI_add]
  refine va_sld C.hx C.hb C.1.2.2.2.2.2.2.1 C.1.2.2.2.2.2.2.2.1 (Nat.not_le.mpr C.1.2.2.2.2.2.2.2.1) hS (vp_in_nI hj (by omega)) h4 ?_
  rw [ec]
  exact k H locs la hP hS hl
def bV (v : Int32) : Int32 := if v = 0 then 0 else 1
theorem bV_01 (v : Int32) : bV v = 0 ∨ bV v = 1 := by
  unfold bV
  split
  · exact Or.inl rfl
  · exact Or.inr rfl
theorem l_bool (C : zV G p s m meth c b L xs) {v : Int32} (h0 : decode cL_law pc = .ok (.ifCond .eq 7, 3)) (h1 : decode cL_law (pc + 3) = .ok (.iconst 1, 1)) (h2 : decode cL_law (pc + 4) = .ok (.goto 4, 3)) (h3 : decode cL_law (pc + 7) = .ok (.iconst 0, 1))
    (k : zL G p l e s m below meth c b (pc + 8) lv (.int (bV v) :: st) D) : zL G p l e s m below meth c b pc lv (.int v :: st) D := fun H locs la hP hS hl => by
  have kk := k H locs la hP hS hl
  refine lv_if_eq (tgt := pc + 7) C.hx C.hb h0 (by omega) (fun z => ?_) (fun z => ?_)
  · refine lv_iconst (v := 0) C.hx C.hb h3 (by decide) ?_
    rw [bV, if_pos z] at kk
    exact kk
  · refine lv_iconst (v := 1) C.hx C.hb h1 (by decide) ?_
    refine lv_goto (tgt := pc + 8) C.hx C.hb h2 (by omega) ?_
    rw [bV, if_neg z] at kk
    exact kk
theorem l_call (C : zV G p s m meth c b L xs) {Z : zY} {idx n q ci : Nat} {fs : List (Option Nat)} {T : u_T} {N : Nat} {Q : Int32 → zM → Prop} (as rest : List Value) (hd : decode cL_law pc = .ok (.invokevirtual idx, 3)) (hM : z_Mt Z) (hw : Cond.methodLink RL idx Z.1 ∈ z_T ∧ Cond.instanceMethod Z.1 ∈ z_T ∧ Cond.selects Z.1.cls Z.1 Z.1 ∈ z_T) (hlev : Z.2.2.2.2 ≤ 8) (hpn : z_Pn Z n)
    (hs : z_sh[q]? = some (.inl (ci, fs))) (hcl : vwCl[ci]? = some (Z.1.cls, T, N)) (hst : st = as.reverse ++ .ref q :: rest) (hn : as.length = n) (hnl : as.length + 1 ≤ Z.2.2.1) (hcat : ∀ v ∈ as, v.category = 1) (h8 : (rest.map fun v => v.category).sum ≤ 8)
    (hC : z_Ci Z (.ref q :: as) D Q) (kk : ∀ r D', Q r D' → zL G p l e s m below meth c b (pc + 3) lv (.int r :: rest) D') : zL G p l e s m below meth c b pc lv st D := fun H locs la hP hS hl => by
  have hmet := z_met hM (as := .ref q :: as) (by simpa using hnl) (fun v hv => (List.mem_cons.mp hv).elim (fun e => by rw [e]; rfl) (hcat v)) hC G l
  have hcell := va_recv (q0 := q) C.2.1.1 hP hcl (z_at hs)
  have hts := C.hts
  have hB := callB_of (s := s) (args := #[Value.ref b]) (own := RL) (index := idx) (R := room_1) n hts (z_good hM.1) (rfl : z_wd Z = _ :: z_T) (rm := z_rm Z.2.2.2.2) (mc := 0) (ms := 0) rfl rfl (hts _ hM.2.1) (hts _ hw.1) ⟨hM.2.2.2.1, hM.2.2.2.2.1, hpn⟩ ⟨by show Z.2.2.2.2 + 1 ≤ 9; omega, by
    show 8 + (Z.2.2.1 + 11) + 30 * Z.2.2.2.2 ≤ 336
    have := hM.2.2.2.2.2
    omega⟩
  have hrun := va_runV (p := p) (l := l) (e := e) (R := room_1) (below := below) (meth := meth) (c := c) (locs := locs) (cells := 59) (slots := 2000) (H := H) (As := as.map (z_v G)) (rest := rest.map (z_v G)) (b := G.1 q) (C := Z.1.cls) (g := F0 m pc la (st.map (z_v G)))
    ⟨C.hx, C.hb, C.1.2.2.2.1, C.1.2.2.2.2.1, hts⟩ hmet ⟨hB, hts _ hw.2.1, hts _ hw.2.2⟩ ⟨z_blind, hcell, fun U hU hW => ⟨rfl, C.2.1.warm hW, by rw [hU]; exact hP⟩⟩ rfl (by rw [List.length_map]; exact hn) hl.1.1 (by rw [hst]; simp [z_v]) (z_room8 h8) hd ⟨Nat.le_of_ble_eq_true rfl, Nat.le_of_ble_eq_true rfl⟩
  refine z_after hrun hS (fun q2 h => by obtain ⟨k, hk, rfl⟩ := h; exact C.2.2.1 k hk) (fun r D' H1 locs1 hPr hP1 hS1 _ _ => ?_)
  cases r with
  | none => exact hPr.elim
  | some r => exact kk r D' hPr H1 locs1 la hP1 hS1 hl
theorem l_eq (C : zV G p s m meth c b L xs) {x : Int32} {off : Int} (tgt : Nat) (hd : decode cL_law pc = .ok (.if_icmp .eq off, 3)) (ht : (pc : Int) + off = (tgt : Int)) (k : zL G p l e s m below meth c b tgt lv st D) : zL G p l e s m below meth c b pc lv (.int x :: .int x :: st) D :=
  fun H locs la hP hS hl => lv_icmp_eq C.hx C.hb hd ht (fun _ => k H locs la hP hS hl) (fun q => absurd rfl q)
set_option maxRecDepth 20000 in
theorem law_0 (C : zV G p s m meth c b L xs) {s0 : zA} (h : zI D s0) {i : Nat} (hi : i + 4 ≤ L) (k : ∀ D1 s1, zI D1 s1 → zL G p l e s m below meth c b 814 (lwv i) [] D1) : zL G p l e s m below meth c b 136 (lwv i) [] D := by
  refine l_aload C 1 dL_law_136 rfl rfl ?_
  refine l_arg C 1 dL_law_137 dL_law_138 dL_law_139 dL_law_140 dL_law_141 (by decide) (by omega) ?_
  refine l_arg C 2 dL_law_142 dL_law_143 dL_law_144 dL_law_145 dL_law_146 (by decide) (by omega) ?_
  refine l_arg C 3 dL_law_147 dL_law_148 dL_law_149 dL_law_150 dL_law_151 (by decide) (by omega) ?_
  refine l_call C (n := 3) [.int (xs (i + 1)), .int (xs (i + 2)), .int (xs (i + 3))] [] dL_law_152 tX3_walk kRL_13 (by decide) pnX3_walk rfl rfl rfl rfl (Nat.le_of_ble_eq_true rfl) (by simp [Value.category]) (by simp [Value.category]) (J_walk h _ _ _) (fun r D1 h1 => ?_)
  refine l_aload C 2 dL_law_155 rfl rfl ?_
  refine l_arg C 1 dL_law_156 dL_law_157 dL_law_158 dL_law_159 dL_law_160 (by decide) (by omega) ?_
  refine l_arg C 2 dL_law_161 dL_law_162 dL_law_163 dL_law_164 dL_law_165 (by decide) (by omega) ?_
  refine l_arg C 3 dL_law_166 dL_law_167 dL_law_168 dL_law_169 dL_law_170 (by decide) (by omega) ?_
  refine l_call C (n := 3) [.int (xs (i + 1)), .int (xs (i + 2)), .int (xs (i + 3))] [.int r] dL_law_171 tX4_walk kRL_17 (by decide) pnX4_walk rfl rfl rfl rfl (Nat.le_of_ble_eq_true rfl) (by simp [Value.category]) (by simp [Value.category]) h1 (fun r2 D2 h2 => ?_)
  obtain ⟨rfl, s2, h2⟩ := h2
  exact l_eq C 814 dL_law_174 (by decide) (k D2 s2 h2)
set_option maxRecDepth 20000 in
theorem law_1 (C : zV G p s m meth c b L xs) {s0 : zA} (h : zI D s0) {i : Nat} (hi : i + 4 ≤ L) (k : ∀ D1 s1, zI D1 s1 → zL G p l e s m below meth c b 814 (lwv i) [] D1) : zL G p l e s m below meth c b 179 (lwv i) [] D := by
  refine l_aload C 1 dL_law_179 rfl rfl ?_
  refine l_call C (n := 0) [] [] dL_law_180 tX3_unwalk kRL_18 (by decide) pnX3_unwalk rfl rfl rfl rfl (Nat.le_of_ble_eq_true rfl) (by simp [Value.category]) (by simp [Value.category]) (J_unwalk h ) (fun r D1 h1 => ?_)
  refine l_aload C 2 dL_law_183 rfl rfl ?_
  refine l_call C (n := 0) [] [.int r] dL_law_184 tX4_unwalk kRL_22 (by decide) pnX4_unwalk rfl rfl rfl rfl (Nat.le_of_ble_eq_true rfl) (by simp [Value.category]) (by simp [Value.category]) h1 (fun r2 D2 h2 => ?_)
  obtain ⟨rfl, s2, h2⟩ := h2
  exact l_eq C 814 dL_law_187 (by decide) (k D2 s2 h2)
set_option maxRecDepth 20000 in
theorem law_2 (C : zV G p s m meth c b L xs) {s0 : zA} (h : zI D s0) {i : Nat} (hi : i + 4 ≤ L) (k : ∀ D1 s1, zI D1 s1 → zL G p l e s m below meth c b 814 (lwv i) [] D1) : zL G p l e s m below meth c b 192 (lwv i) [] D := by
  refine l_aload C 1 dL_law_192 rfl rfl ?_
  refine l_arg C 1 dL_law_193 dL_law_194 dL_law_195 dL_law_196 dL_law_197 (by decide) (by omega) ?_
  refine l_arg C 2 dL_law_198 dL_law_199 dL_law_200 dL_law_201 dL_law_202 (by decide) (by omega) ?_
  refine l_bool C dL_law_203 dL_law_206 dL_law_207 dL_law_210 ?_
  refine l_call C (n := 2) [.int (xs (i + 1)), .int (bV (xs (i + 2)))] [] dL_law_211 tX3_open kRL_23 (by decide) pnX3_open rfl rfl rfl rfl (Nat.le_of_ble_eq_true rfl) (by simp [Value.category]) (by simp [Value.category]) (J_open h _ _ (bV_01 _)) (fun r D1 h1 => ?_)
  refine l_aload C 2 dL_law_214 rfl rfl ?_
  refine l_arg C 1 dL_law_215 dL_law_216 dL_law_217 dL_law_218 dL_law_219 (by decide) (by omega) ?_
  refine l_arg C 2 dL_law_220 dL_law_221 dL_law_222 dL_law_223 dL_law_224 (by decide) (by omega) ?_
  refine l_bool C dL_law_225 dL_law_228 dL_law_229 dL_law_232 ?_
  refine l_call C (n := 2) [.int (xs (i + 1)), .int (bV (xs (i + 2)))] [.int r] dL_law_233 tX4_open kRL_27 (by decide) pnX4_open rfl rfl rfl rfl (Nat.le_of_ble_eq_true rfl) (by simp [Value.category]) (by simp [Value.category]) h1 (fun r2 D2 h2 => ?_)
  obtain ⟨rfl, s2, h2⟩ := h2
  exact l_eq C 814 dL_law_236 (by decide) (k D2 s2 h2)
set_option maxRecDepth 20000 in
theorem law_3 (C : zV G p s m meth c b L xs) {s0 : zA} (h : zI D s0) {i : Nat} (hi : i + 4 ≤ L) (k : ∀ D1 s1, zI D1 s1 → zL G p l e s m below meth c b 814 (lwv i) [] D1) : zL G p l e s m below meth c b 241 (lwv i) [] D := by
  refine l_aload C 1 dL_law_241 rfl rfl ?_
  refine l_arg C 1 dL_law_242 dL_law_243 dL_law_244 dL_law_245 dL_law_246 (by decide) (by omega) ?_
  refine l_arg C 2 dL_law_247 dL_law_248 dL_law_249 dL_law_250 dL_law_251 (by decide) (by omega) ?_
  refine l_call C (n := 2) [.int (xs (i + 1)), .int (xs (i + 2))] [] dL_law_252 tX3_ofWalk kRL_28 (by decide) pnX3_ofWalk rfl rfl rfl rfl (Nat.le_of_ble_eq_true rfl) (by simp [Value.category]) (by simp [Value.category]) (J_ofWalk h _ _) (fun r D1 h1 => ?_)
  refine l_aload C 2 dL_law_255 rfl rfl ?_
  refine l_arg C 1 dL_law_256 dL_law_257 dL_law_258 dL_law_259 dL_law_260 (by decide) (by omega) ?_
  refine l_arg C 2 dL_law_261 dL_law_262 dL_law_263 dL_law_264 dL_law_265 (by decide) (by omega) ?_
  refine l_call C (n := 2) [.int (xs (i + 1)), .int (xs (i + 2))] [.int r] dL_law_266 tX4_ofWalk kRL_32 (by decide) pnX4_ofWalk rfl rfl rfl rfl (Nat.le_of_ble_eq_true rfl) (by simp [Value.category]) (by simp [Value.category]) h1 (fun r2 D2 h2 => ?_)
  obtain ⟨rfl, s2, h2⟩ := h2
  exact l_eq C 814 dL_law_269 (by decide) (k D2 s2 h2)
set_option maxRecDepth 20000 in
theorem law_4 (C : zV G p s m meth c b L xs) {s0 : zA} (h : zI D s0) {i : Nat} (hi : i + 4 ≤ L) (k : ∀ D1 s1, zI D1 s1 → zL G p l e s m below meth c b 814 (lwv i) [] D1) : zL G p l e s m below meth c b 274 (lwv i) [] D := by
  refine l_aload C 1 dL_law_274 rfl rfl ?_
  refine l_arg C 1 dL_law_275 dL_law_276 dL_law_277 dL_law_278 dL_law_279 (by decide) (by omega) ?_
  refine l_call C (n := 1) [.int (xs (i + 1))] [] dL_law_280 tX3_name kRL_33 (by decide) pnX3_name rfl rfl rfl rfl (Nat.le_of_ble_eq_true rfl) (by simp [Value.category]) (by simp [Value.category]) (J_name h _) (fun r D1 h1 => ?_)
  refine l_aload C 2 dL_law_283 rfl rfl ?_
  refine l_arg C 1 dL_law_284 dL_law_285 dL_law_286 dL_law_287 dL_law_288 (by decide) (by omega) ?_
  refine l_call C (n := 1) [.int (xs (i + 1))] [.int r] dL_law_289 tX4_name kRL_37 (by decide) pnX4_name rfl rfl rfl rfl (Nat.le_of_ble_eq_true rfl) (by simp [Value.category]) (by simp [Value.category]) h1 (fun r2 D2 h2 => ?_)
  obtain ⟨rfl, s2, h2⟩ := h2
  exact l_eq C 814 dL_law_292 (by decide) (k D2 s2 h2)
set_option maxRecDepth 20000 in
theorem law_5 (C : zV G p s m meth c b L xs) {s0 : zA} (h : zI D s0) {i : Nat} (hi : i + 4 ≤ L) (k : ∀ D1 s1, zI D1 s1 → zL G p l e s m below meth c b 814 (lwv i) [] D1) : zL G p l e s m below meth c b 297 (lwv i) [] D := by
  refine l_aload C 1 dL_law_297 rfl rfl ?_
  refine l_arg C 1 dL_law_298 dL_law_299 dL_law_300 dL_law_301 dL_law_302 (by decide) (by omega) ?_
  refine l_arg C 2 dL_law_303 dL_law_304 dL_law_305 dL_law_306 dL_law_307 (by decide) (by omega) ?_
  refine l_call C (n := 2) [.int (xs (i + 1)), .int (xs (i + 2))] [] dL_law_308 tX3_moves kRL_38 (by decide) pnX3_moves rfl rfl rfl rfl (Nat.le_of_ble_eq_true rfl) (by simp [Value.category]) (by simp [Value.category]) (J_moves h _ _) (fun r D1 h1 => ?_)
  refine l_aload C 2 dL_law_311 rfl rfl ?_
  refine l_arg C 1 dL_law_312 dL_law_313 dL_law_314 dL_law_315 dL_law_316 (by decide) (by omega) ?_
  refine l_arg C 2 dL_law_317 dL_law_318 dL_law_319 dL_law_320 dL_law_321 (by decide) (by omega) ?_
  refine l_call C (n := 2) [.int (xs (i + 1)), .int (xs (i + 2))] [.int r] dL_law_322 tX4_moves kRL_41 (by decide) pnX4_moves rfl rfl rfl rfl (Nat.le_of_ble_eq_true rfl) (by simp [Value.category]) (by simp [Value.category]) h1 (fun r2 D2 h2 => ?_)
  obtain ⟨rfl, s2, h2⟩ := h2
  exact l_eq C 814 dL_law_325 (by decide) (k D2 s2 h2)
set_option maxRecDepth 20000 in
theorem law_6 (C : zV G p s m meth c b L xs) {s0 : zA} (h : zI D s0) {i : Nat} (hi : i + 4 ≤ L) (k : ∀ D1 s1, zI D1 s1 → zL G p l e s m below meth c b 814 (lwv i) [] D1) : zL G p l e s m below meth c b 330 (lwv i) [] D := by
  refine l_aload C 1 dL_law_330 rfl rfl ?_
  refine l_arg C 1 dL_law_331 dL_law_332 dL_law_333 dL_law_334 dL_law_335 (by decide) (by omega) ?_
  refine l_arg C 2 dL_law_336 dL_law_337 dL_law_338 dL_law_339 dL_law_340 (by decide) (by omega) ?_
  refine l_bool C dL_law_341 dL_law_344 dL_law_345 dL_law_348 ?_
  refine l_call C (n := 2) [.int (xs (i + 1)), .int (bV (xs (i + 2)))] [] dL_law_349 tX3_entrance kRL_42 (by decide) pnX3_entrance rfl rfl rfl rfl (Nat.le_of_ble_eq_true rfl) (by simp [Value.category]) (by simp [Value.category]) (J_entrance h _ _ (bV_01 _)) (fun r D1 h1 => ?_)
  refine l_aload C 2 dL_law_352 rfl rfl ?_
  refine l_arg C 1 dL_law_353 dL_law_354 dL_law_355 dL_law_356 dL_law_357 (by decide) (by omega) ?_
  refine l_arg C 2 dL_law_358 dL_law_359 dL_law_360 dL_law_361 dL_law_362 (by decide) (by omega) ?_
  refine l_bool C dL_law_363 dL_law_366 dL_law_367 dL_law_370 ?_
  refine l_call C (n := 2) [.int (xs (i + 1)), .int (bV (xs (i + 2)))] [.int r] dL_law_371 tX4_entrance kRL_45 (by decide) pnX4_entrance rfl rfl rfl rfl (Nat.le_of_ble_eq_true rfl) (by simp [Value.category]) (by simp [Value.category]) h1 (fun r2 D2 h2 => ?_)
  obtain ⟨rfl, s2, h2⟩ := h2
  exact l_eq C 814 dL_law_374 (by decide) (k D2 s2 h2)
set_option maxRecDepth 20000 in
theorem law_7 (C : zV G p s m meth c b L xs) {s0 : zA} (h : zI D s0) {i : Nat} (hi : i + 4 ≤ L) (k : ∀ D1 s1, zI D1 s1 → zL G p l e s m below meth c b 814 (lwv i) [] D1) : zL G p l e s m below meth c b 379 (lwv i) [] D := by
  refine l_aload C 1 dL_law_379 rfl rfl ?_
  refine l_arg C 1 dL_law_380 dL_law_381 dL_law_382 dL_law_383 dL_law_384 (by decide) (by omega) ?_
  refine l_call C (n := 1) [.int (xs (i + 1))] [] dL_law_385 tX3_detour kRL_46 (by decide) pnX3_detour rfl rfl rfl rfl (Nat.le_of_ble_eq_true rfl) (by simp [Value.category]) (by simp [Value.category]) (J_detour h _) (fun r D1 h1 => ?_)
  refine l_aload C 2 dL_law_388 rfl rfl ?_
  refine l_arg C 1 dL_law_389 dL_law_390 dL_law_391 dL_law_392 dL_law_393 (by decide) (by omega) ?_
  refine l_call C (n := 1) [.int (xs (i + 1))] [.int r] dL_law_394 tX4_detour kRL_49 (by decide) pnX4_detour rfl rfl rfl rfl (Nat.le_of_ble_eq_true rfl) (by simp [Value.category]) (by simp [Value.category]) h1 (fun r2 D2 h2 => ?_)
  obtain ⟨rfl, s2, h2⟩ := h2
  exact l_eq C 814 dL_law_397 (by decide) (k D2 s2 h2)
set_option maxRecDepth 20000 in
theorem law_8 (C : zV G p s m meth c b L xs) {s0 : zA} (h : zI D s0) {i : Nat} (hi : i + 4 ≤ L) (k : ∀ D1 s1, zI D1 s1 → zL G p l e s m below meth c b 814 (lwv i) [] D1) : zL G p l e s m below meth c b 402 (lwv i) [] D := by
  refine l_aload C 1 dL_law_402 rfl rfl ?_
  refine l_arg C 1 dL_law_403 dL_law_404 dL_law_405 dL_law_406 dL_law_407 (by decide) (by omega) ?_
  refine l_arg C 2 dL_law_408 dL_law_409 dL_law_410 dL_law_411 dL_law_412 (by decide) (by omega) ?_
  refine l_arg C 3 dL_law_413 dL_law_414 dL_law_415 dL_law_416 dL_law_417 (by decide) (by omega) ?_
  refine l_call C (n := 3) [.int (xs (i + 1)), .int (xs (i + 2)), .int (xs (i + 3))] [] dL_law_418 tX3_board kRL_50 (by decide) pnX3_board rfl rfl rfl rfl (Nat.le_of_ble_eq_true rfl) (by simp [Value.category]) (by simp [Value.category]) (J_board h _ _ _) (fun r D1 h1 => ?_)
  refine l_aload C 2 dL_law_421 rfl rfl ?_
  refine l_arg C 1 dL_law_422 dL_law_423 dL_law_424 dL_law_425 dL_law_426 (by decide) (by omega) ?_
  refine l_arg C 2 dL_law_427 dL_law_428 dL_law_429 dL_law_430 dL_law_431 (by decide) (by omega) ?_
  refine l_arg C 3 dL_law_432 dL_law_433 dL_law_434 dL_law_435 dL_law_436 (by decide) (by omega) ?_
  refine l_call C (n := 3) [.int (xs (i + 1)), .int (xs (i + 2)), .int (xs (i + 3))] [.int r] dL_law_437 tX4_board kRL_53 (by decide) pnX4_board rfl rfl rfl rfl (Nat.le_of_ble_eq_true rfl) (by simp [Value.category]) (by simp [Value.category]) h1 (fun r2 D2 h2 => ?_)
  obtain ⟨rfl, s2, h2⟩ := h2
  exact l_eq C 814 dL_law_440 (by decide) (k D2 s2 h2)
set_option maxRecDepth 20000 in
theorem law_9 (C : zV G p s m meth c b L xs) {s0 : zA} (h : zI D s0) {i : Nat} (hi : i + 4 ≤ L) (k : ∀ D1 s1, zI D1 s1 → zL G p l e s m below meth c b 814 (lwv i) [] D1) : zL G p l e s m below meth c b 445 (lwv i) [] D := by
  refine l_aload C 1 dL_law_445 rfl rfl ?_
  refine l_arg C 1 dL_law_446 dL_law_447 dL_law_448 dL_law_449 dL_law_450 (by decide) (by omega) ?_
  refine l_arg C 2 dL_law_451 dL_law_452 dL_law_453 dL_law_454 dL_law_455 (by decide) (by omega) ?_
  refine l_call C (n := 2) [.int (xs (i + 1)), .int (xs (i + 2))] [] dL_law_456 tX3_unboard kRL_54 (by decide) pnX3_unboard rfl rfl rfl rfl (Nat.le_of_ble_eq_true rfl) (by simp [Value.category]) (by simp [Value.category]) (J_unboard h _ _) (fun r D1 h1 => ?_)
  refine l_aload C 2 dL_law_459 rfl rfl ?_
  refine l_arg C 1 dL_law_460 dL_law_461 dL_law_462 dL_law_463 dL_law_464 (by decide) (by omega) ?_
  refine l_arg C 2 dL_law_465 dL_law_466 dL_law_467 dL_law_468 dL_law_469 (by decide) (by omega) ?_
  refine l_call C (n := 2) [.int (xs (i + 1)), .int (xs (i + 2))] [.int r] dL_law_470 tX4_unboard kRL_57 (by decide) pnX4_unboard rfl rfl rfl rfl (Nat.le_of_ble_eq_true rfl) (by simp [Value.category]) (by simp [Value.category]) h1 (fun r2 D2 h2 => ?_)
  obtain ⟨rfl, s2, h2⟩ := h2
  exact l_eq C 814 dL_law_473 (by decide) (k D2 s2 h2)
set_option maxRecDepth 20000 in
theorem law_10 (C : zV G p s m meth c b L xs) {s0 : zA} (h : zI D s0) {i : Nat} (hi : i + 4 ≤ L) (k : ∀ D1 s1, zI D1 s1 → zL G p l e s m below meth c b 814 (lwv i) [] D1) : zL G p l e s m below meth c b 478 (lwv i) [] D := by
  refine l_aload C 1 dL_law_478 rfl rfl ?_
  refine l_arg C 1 dL_law_479 dL_law_480 dL_law_481 dL_law_482 dL_law_483 (by decide) (by omega) ?_
  refine l_arg C 2 dL_law_484 dL_law_485 dL_law_486 dL_law_487 dL_law_488 (by decide) (by omega) ?_
  refine l_call C (n := 2) [.int (xs (i + 1)), .int (xs (i + 2))] [] dL_law_489 tX3_arrow kRL_58 (by decide) pnX3_arrow rfl rfl rfl rfl (Nat.le_of_ble_eq_true rfl) (by simp [Value.category]) (by simp [Value.category]) (J_arrow h _ _) (fun r D1 h1 => ?_)
  refine l_aload C 2 dL_law_492 rfl rfl ?_
  refine l_arg C 1 dL_law_493 dL_law_494 dL_law_495 dL_law_496 dL_law_497 (by decide) (by omega) ?_
  refine l_arg C 2 dL_law_498 dL_law_499 dL_law_500 dL_law_501 dL_law_502 (by decide) (by omega) ?_
  refine l_call C (n := 2) [.int (xs (i + 1)), .int (xs (i + 2))] [.int r] dL_law_503 tX4_arrow kRL_61 (by decide) pnX4_arrow rfl rfl rfl rfl (Nat.le_of_ble_eq_true rfl) (by simp [Value.category]) (by simp [Value.category]) h1 (fun r2 D2 h2 => ?_)
  obtain ⟨rfl, s2, h2⟩ := h2
  exact l_eq C 814 dL_law_506 (by decide) (k D2 s2 h2)
set_option maxRecDepth 20000 in
theorem law_11 (C : zV G p s m meth c b L xs) {s0 : zA} (h : zI D s0) {i : Nat} (hi : i + 4 ≤ L) (k : ∀ D1 s1, zI D1 s1 → zL G p l e s m below meth c b 814 (lwv i) [] D1) : zL G p l e s m below meth c b 511 (lwv i) [] D := by
  refine l_aload C 1 dL_law_511 rfl rfl ?_
  refine l_arg C 1 dL_law_512 dL_law_513 dL_law_514 dL_law_515 dL_law_516 (by decide) (by omega) ?_
  refine l_arg C 2 dL_law_517 dL_law_518 dL_law_519 dL_law_520 dL_law_521 (by decide) (by omega) ?_
  refine l_arg C 3 dL_law_522 dL_law_523 dL_law_524 dL_law_525 dL_law_526 (by decide) (by omega) ?_
  refine l_call C (n := 3) [.int (xs (i + 1)), .int (xs (i + 2)), .int (xs (i + 3))] [] dL_law_527 tX3_far kRL_62 (by decide) pnX3_far rfl rfl rfl rfl (Nat.le_of_ble_eq_true rfl) (by simp [Value.category]) (by simp [Value.category]) (J_far h _ _ _) (fun r D1 h1 => ?_)
  refine l_aload C 2 dL_law_530 rfl rfl ?_
  refine l_arg C 1 dL_law_531 dL_law_532 dL_law_533 dL_law_534 dL_law_535 (by decide) (by omega) ?_
  refine l_arg C 2 dL_law_536 dL_law_537 dL_law_538 dL_law_539 dL_law_540 (by decide) (by omega) ?_
  refine l_arg C 3 dL_law_541 dL_law_542 dL_law_543 dL_law_544 dL_law_545 (by decide) (by omega) ?_
  refine l_call C (n := 3) [.int (xs (i + 1)), .int (xs (i + 2)), .int (xs (i + 3))] [.int r] dL_law_546 tX4_far kRL_65 (by decide) pnX4_far rfl rfl rfl rfl (Nat.le_of_ble_eq_true rfl) (by simp [Value.category]) (by simp [Value.category]) h1 (fun r2 D2 h2 => ?_)
  obtain ⟨rfl, s2, h2⟩ := h2
  exact l_eq C 814 dL_law_549 (by decide) (k D2 s2 h2)
set_option maxRecDepth 20000 in
theorem law_12 (C : zV G p s m meth c b L xs) {s0 : zA} (h : zI D s0) {i : Nat} (hi : i + 4 ≤ L) (k : ∀ D1 s1, zI D1 s1 → zL G p l e s m below meth c b 814 (lwv i) [] D1) : zL G p l e s m below meth c b 554 (lwv i) [] D := by
  refine l_aload C 1 dL_law_554 rfl rfl ?_
  refine l_arg C 1 dL_law_555 dL_law_556 dL_law_557 dL_law_558 dL_law_559 (by decide) (by omega) ?_
  refine l_call C (n := 1) [.int (xs (i + 1))] [] dL_law_560 tX3_from kRL_66 (by decide) pnX3_from rfl rfl rfl rfl (Nat.le_of_ble_eq_true rfl) (by simp [Value.category]) (by simp [Value.category]) (J_from h _) (fun r D1 h1 => ?_)
  refine l_aload C 2 dL_law_563 rfl rfl ?_
  refine l_arg C 1 dL_law_564 dL_law_565 dL_law_566 dL_law_567 dL_law_568 (by decide) (by omega) ?_
  refine l_call C (n := 1) [.int (xs (i + 1))] [.int r] dL_law_569 tX4_from kRL_69 (by decide) pnX4_from rfl rfl rfl rfl (Nat.le_of_ble_eq_true rfl) (by simp [Value.category]) (by simp [Value.category]) h1 (fun r2 D2 h2 => ?_)
  obtain ⟨rfl, s2, h2⟩ := h2
  exact l_eq C 814 dL_law_572 (by decide) (k D2 s2 h2)
set_option maxRecDepth 20000 in
theorem law_13 (C : zV G p s m meth c b L xs) {s0 : zA} (h : zI D s0) {i : Nat} (hi : i + 4 ≤ L) (k : ∀ D1 s1, zI D1 s1 → zL G p l e s m below meth c b 814 (lwv i) [] D1) : zL G p l e s m below meth c b 577 (lwv i) [] D := by
  refine l_aload C 1 dL_law_577 rfl rfl ?_
  refine l_arg C 1 dL_law_578 dL_law_579 dL_law_580 dL_law_581 dL_law_582 (by decide) (by omega) ?_
  refine l_arg C 2 dL_law_583 dL_law_584 dL_law_585 dL_law_586 dL_law_587 (by decide) (by omega) ?_
  refine l_arg C 3 dL_law_588 dL_law_589 dL_law_590 dL_law_591 dL_law_592 (by decide) (by omega) ?_
  refine l_call C (n := 3) [.int (xs (i + 1)), .int (xs (i + 2)), .int (xs (i + 3))] [] dL_law_593 tX3_follow kRL_70 (by decide) pnX3_follow rfl rfl rfl rfl (Nat.le_of_ble_eq_true rfl) (by simp [Value.category]) (by simp [Value.category]) (J_follow h _ _ _) (fun r D1 h1 => ?_)
  refine l_aload C 2 dL_law_596 rfl rfl ?_
  refine l_arg C 1 dL_law_597 dL_law_598 dL_law_599 dL_law_600 dL_law_601 (by decide) (by omega) ?_
  refine l_arg C 2 dL_law_602 dL_law_603 dL_law_604 dL_law_605 dL_law_606 (by decide) (by omega) ?_
  refine l_arg C 3 dL_law_607 dL_law_608 dL_law_609 dL_law_610 dL_law_611 (by decide) (by omega) ?_
  refine l_call C (n := 3) [.int (xs (i + 1)), .int (xs (i + 2)), .int (xs (i + 3))] [.int r] dL_law_612 tX4_follow kRL_73 (by decide) pnX4_follow rfl rfl rfl rfl (Nat.le_of_ble_eq_true rfl) (by simp [Value.category]) (by simp [Value.category]) h1 (fun r2 D2 h2 => ?_)
  obtain ⟨rfl, s2, h2⟩ := h2
  exact l_eq C 814 dL_law_615 (by decide) (k D2 s2 h2)
set_option maxRecDepth 20000 in
theorem law_14 (C : zV G p s m meth c b L xs) {s0 : zA} (h : zI D s0) {i : Nat} (hi : i + 4 ≤ L) (k : ∀ D1 s1, zI D1 s1 → zL G p l e s m below meth c b 814 (lwv i) [] D1) : zL G p l e s m below meth c b 620 (lwv i) [] D := by
  refine l_aload C 1 dL_law_620 rfl rfl ?_
  refine l_arg C 1 dL_law_621 dL_law_622 dL_law_623 dL_law_624 dL_law_625 (by decide) (by omega) ?_
  refine l_call C (n := 1) [.int (xs (i + 1))] [] dL_law_626 tX3_ends kRL_74 (by decide) pnX3_ends rfl rfl rfl rfl (Nat.le_of_ble_eq_true rfl) (by simp [Value.category]) (by simp [Value.category]) (J_ends h _) (fun r D1 h1 => ?_)
  refine l_aload C 2 dL_law_629 rfl rfl ?_
  refine l_arg C 1 dL_law_630 dL_law_631 dL_law_632 dL_law_633 dL_law_634 (by decide) (by omega) ?_
  refine l_call C (n := 1) [.int (xs (i + 1))] [.int r] dL_law_635 tX4_ends kRL_77 (by decide) pnX4_ends rfl rfl rfl rfl (Nat.le_of_ble_eq_true rfl) (by simp [Value.category]) (by simp [Value.category]) h1 (fun r2 D2 h2 => ?_)
  obtain ⟨rfl, s2, h2⟩ := h2
  exact l_eq C 814 dL_law_638 (by decide) (k D2 s2 h2)
set_option maxRecDepth 20000 in
theorem law_15 (C : zV G p s m meth c b L xs) {s0 : zA} (h : zI D s0) {i : Nat} (hi : i + 4 ≤ L) (k : ∀ D1 s1, zI D1 s1 → zL G p l e s m below meth c b 814 (lwv i) [] D1) : zL G p l e s m below meth c b 643 (lwv i) [] D := by
  refine l_aload C 1 dL_law_643 rfl rfl ?_
  refine l_arg C 1 dL_law_644 dL_law_645 dL_law_646 dL_law_647 dL_law_648 (by decide) (by omega) ?_
  refine l_arg C 2 dL_law_649 dL_law_650 dL_law_651 dL_law_652 dL_law_653 (by decide) (by omega) ?_
  refine l_call C (n := 2) [.int (xs (i + 1)), .int (xs (i + 2))] [] dL_law_654 tX3_those kRL_78 (by decide) pnX3_those rfl rfl rfl rfl (Nat.le_of_ble_eq_true rfl) (by simp [Value.category]) (by simp [Value.category]) (J_those h _ _) (fun r D1 h1 => ?_)
  refine l_aload C 2 dL_law_657 rfl rfl ?_
  refine l_arg C 1 dL_law_658 dL_law_659 dL_law_660 dL_law_661 dL_law_662 (by decide) (by omega) ?_
  refine l_arg C 2 dL_law_663 dL_law_664 dL_law_665 dL_law_666 dL_law_667 (by decide) (by omega) ?_
  refine l_call C (n := 2) [.int (xs (i + 1)), .int (xs (i + 2))] [.int r] dL_law_668 tX4_those kRL_81 (by decide) pnX4_those rfl rfl rfl rfl (Nat.le_of_ble_eq_true rfl) (by simp [Value.category]) (by simp [Value.category]) h1 (fun r2 D2 h2 => ?_)
  obtain ⟨rfl, s2, h2⟩ := h2
  exact l_eq C 814 dL_law_671 (by decide) (k D2 s2 h2)
set_option maxRecDepth 20000 in
theorem law_16 (C : zV G p s m meth c b L xs) {s0 : zA} (h : zI D s0) {i : Nat} (hi : i + 4 ≤ L) (k : ∀ D1 s1, zI D1 s1 → zL G p l e s m below meth c b 814 (lwv i) [] D1) : zL G p l e s m below meth c b 676 (lwv i) [] D := by
  refine l_aload C 1 dL_law_676 rfl rfl ?_
  refine l_arg C 1 dL_law_677 dL_law_678 dL_law_679 dL_law_680 dL_law_681 (by decide) (by omega) ?_
  refine l_call C (n := 1) [.int (xs (i + 1))] [] dL_law_682 tX3_idle kRL_82 (by decide) pnX3_idle rfl rfl rfl rfl (Nat.le_of_ble_eq_true rfl) (by simp [Value.category]) (by simp [Value.category]) (J_idle h _) (fun r D1 h1 => ?_)
  refine l_aload C 2 dL_law_685 rfl rfl ?_
  refine l_arg C 1 dL_law_686 dL_law_687 dL_law_688 dL_law_689 dL_law_690 (by decide) (by omega) ?_
  refine l_call C (n := 1) [.int (xs (i + 1))] [.int r] dL_law_691 tX4_idle kRL_85 (by decide) pnX4_idle rfl rfl rfl rfl (Nat.le_of_ble_eq_true rfl) (by simp [Value.category]) (by simp [Value.category]) h1 (fun r2 D2 h2 => ?_)
  obtain ⟨rfl, s2, h2⟩ := h2
  exact l_eq C 814 dL_law_694 (by decide) (k D2 s2 h2)
set_option maxRecDepth 20000 in
theorem law_17 (C : zV G p s m meth c b L xs) {s0 : zA} (h : zI D s0) {i : Nat} (hi : i + 4 ≤ L) (k : ∀ D1 s1, zI D1 s1 → zL G p l e s m below meth c b 814 (lwv i) [] D1) : zL G p l e s m below meth c b 699 (lwv i) [] D := by
  refine l_aload C 1 dL_law_699 rfl rfl ?_
  refine l_arg C 1 dL_law_700 dL_law_701 dL_law_702 dL_law_703 dL_law_704 (by decide) (by omega) ?_
  refine l_call C (n := 1) [.int (xs (i + 1))] [] dL_law_705 tX3_mend kRL_86 (by decide) pnX3_mend rfl rfl rfl rfl (Nat.le_of_ble_eq_true rfl) (by simp [Value.category]) (by simp [Value.category]) (J_mend h _) (fun r D1 h1 => ?_)
  refine l_aload C 2 dL_law_708 rfl rfl ?_
  refine l_arg C 1 dL_law_709 dL_law_710 dL_law_711 dL_law_712 dL_law_713 (by decide) (by omega) ?_
  refine l_call C (n := 1) [.int (xs (i + 1))] [.int r] dL_law_714 tX4_mend kRL_89 (by decide) pnX4_mend rfl rfl rfl rfl (Nat.le_of_ble_eq_true rfl) (by simp [Value.category]) (by simp [Value.category]) h1 (fun r2 D2 h2 => ?_)
  obtain ⟨rfl, s2, h2⟩ := h2
  exact l_eq C 814 dL_law_717 (by decide) (k D2 s2 h2)
set_option maxRecDepth 20000 in
theorem law_18 (C : zV G p s m meth c b L xs) {s0 : zA} (h : zI D s0) {i : Nat} (hi : i + 4 ≤ L) (k : ∀ D1 s1, zI D1 s1 → zL G p l e s m below meth c b 814 (lwv i) [] D1) : zL G p l e s m below meth c b 722 (lwv i) [] D := by
  refine l_aload C 1 dL_law_722 rfl rfl ?_
  refine l_arg C 1 dL_law_723 dL_law_724 dL_law_725 dL_law_726 dL_law_727 (by decide) (by omega) ?_
  refine l_arg C 2 dL_law_728 dL_law_729 dL_law_730 dL_law_731 dL_law_732 (by decide) (by omega) ?_
  refine l_call C (n := 2) [.int (xs (i + 1)), .int (xs (i + 2))] [] dL_law_733 tX3_leads kRL_90 (by decide) pnX3_leads rfl rfl rfl rfl (Nat.le_of_ble_eq_true rfl) (by simp [Value.category]) (by simp [Value.category]) (J_leads h _ _) (fun r D1 h1 => ?_)
  refine l_aload C 2 dL_law_736 rfl rfl ?_
  refine l_arg C 1 dL_law_737 dL_law_738 dL_law_739 dL_law_740 dL_law_741 (by decide) (by omega) ?_
  refine l_arg C 2 dL_law_742 dL_law_743 dL_law_744 dL_law_745 dL_law_746 (by decide) (by omega) ?_
  refine l_call C (n := 2) [.int (xs (i + 1)), .int (xs (i + 2))] [.int r] dL_law_747 tX4_leads kRL_93 (by decide) pnX4_leads rfl rfl rfl rfl (Nat.le_of_ble_eq_true rfl) (by simp [Value.category]) (by simp [Value.category]) h1 (fun r2 D2 h2 => ?_)
  obtain ⟨rfl, s2, h2⟩ := h2
  exact l_eq C 814 dL_law_750 (by decide) (k D2 s2 h2)
set_option maxRecDepth 20000 in
theorem law_19 (C : zV G p s m meth c b L xs) {s0 : zA} (h : zI D s0) {i : Nat} (hi : i + 4 ≤ L) (k : ∀ D1 s1, zI D1 s1 → zL G p l e s m below meth c b 814 (lwv i) [] D1) : zL G p l e s m below meth c b 755 (lwv i) [] D := by
  refine l_aload C 1 dL_law_755 rfl rfl ?_
  refine l_arg C 1 dL_law_756 dL_law_757 dL_law_758 dL_law_759 dL_law_760 (by decide) (by omega) ?_
  refine l_call C (n := 1) [.int (xs (i + 1))] [] dL_law_761 tX3_fewest kRL_94 (by decide) pnX3_fewest rfl rfl rfl rfl (Nat.le_of_ble_eq_true rfl) (by simp [Value.category]) (by simp [Value.category]) (J_fewest h _) (fun r D1 h1 => ?_)
  refine l_aload C 2 dL_law_764 rfl rfl ?_
  refine l_arg C 1 dL_law_765 dL_law_766 dL_law_767 dL_law_768 dL_law_769 (by decide) (by omega) ?_
  refine l_call C (n := 1) [.int (xs (i + 1))] [.int r] dL_law_770 tX4_fewest kRL_97 (by decide) pnX4_fewest rfl rfl rfl rfl (Nat.le_of_ble_eq_true rfl) (by simp [Value.category]) (by simp [Value.category]) h1 (fun r2 D2 h2 => ?_)
  obtain ⟨rfl, s2, h2⟩ := h2
  exact l_eq C 814 dL_law_773 (by decide) (k D2 s2 h2)
set_option maxRecDepth 20000 in
theorem law_20 (C : zV G p s m meth c b L xs) {s0 : zA} (h : zI D s0) {i : Nat} (hi : i + 4 ≤ L) (k : ∀ D1 s1, zI D1 s1 → zL G p l e s m below meth c b 814 (lwv i) [] D1) : zL G p l e s m below meth c b 778 (lwv i) [] D := by
  refine l_aload C 1 dL_law_778 rfl rfl ?_
  refine l_call C (n := 0) [] [] dL_law_779 tX3_posts kRL_98 (by decide) pnX3_posts rfl rfl rfl rfl (Nat.le_of_ble_eq_true rfl) (by simp [Value.category]) (by simp [Value.category]) (J_posts h ) (fun r D1 h1 => ?_)
  refine l_aload C 2 dL_law_782 rfl rfl ?_
  refine l_call C (n := 0) [] [.int r] dL_law_783 tX4_posts kRL_101 (by decide) pnX4_posts rfl rfl rfl rfl (Nat.le_of_ble_eq_true rfl) (by simp [Value.category]) (by simp [Value.category]) h1 (fun r2 D2 h2 => ?_)
  obtain ⟨rfl, s2, h2⟩ := h2
  exact l_eq C 814 dL_law_786 (by decide) (k D2 s2 h2)
set_option maxRecDepth 20000 in
theorem law_21 (C : zV G p s m meth c b L xs) {s0 : zA} (h : zI D s0) {i : Nat} (hi : i + 4 ≤ L) (k : ∀ D1 s1, zI D1 s1 → zL G p l e s m below meth c b 814 (lwv i) [] D1) : zL G p l e s m below meth c b 791 (lwv i) [] D := by
  refine l_aload C 1 dL_law_791 rfl rfl ?_
  refine l_arg C 1 dL_law_792 dL_law_793 dL_law_794 dL_law_795 dL_law_796 (by decide) (by omega) ?_
  refine l_call C (n := 1) [.int (xs (i + 1))] [] dL_law_797 tX3_many kRL_102 (by decide) pnX3_many rfl rfl rfl rfl (Nat.le_of_ble_eq_true rfl) (by simp [Value.category]) (by simp [Value.category]) (J_many h _) (fun r D1 h1 => ?_)
  refine l_aload C 2 dL_law_800 rfl rfl ?_
  refine l_arg C 1 dL_law_801 dL_law_802 dL_law_803 dL_law_804 dL_law_805 (by decide) (by omega) ?_
  refine l_call C (n := 1) [.int (xs (i + 1))] [.int r] dL_law_806 tX4_many kRL_105 (by decide) pnX4_many rfl rfl rfl rfl (Nat.le_of_ble_eq_true rfl) (by simp [Value.category]) (by simp [Value.category]) h1 (fun r2 D2 h2 => ?_)
  obtain ⟨rfl, s2, h2⟩ := h2
  exact l_eq C 814 dL_law_809 (by decide) (k D2 s2 h2)
theorem and31 (x : Int32) : ∃ k, k < 32 ∧ x &&& 31 = nI k := by
  have e : x = nI x.toBitVec.toNat := by
    apply Int32.toBitVec_inj.1
    show x.toBitVec = BitVec.ofNat 32 x.toBitVec.toNat
    simp
  refine ⟨x.toBitVec.toNat &&& 31, Nat.lt_of_le_of_lt Nat.and_le_right (by omega), ?_⟩
  conv => lhs; rw [e]
  exact nb_and _ 31
theorem lenm4 {i L : Nat} (hi : i ≤ 2048) (hL : L ≤ 2048) : (Int32.ofNat L - 4 < nI i) ↔ ¬ i + 4 ≤ L := by
  by_cases h : 4 ≤ L
  · rw [show (4 : Int32) = nI 4 from rfl, nI_lit, pk_sub h, nI_ltI (by omega) (by omega)]
    omega
  · have h4 : ∀ L, L < 4 → Int32.ofNat L - 4 < 0 := by decide
    have h0 : (0 : Int32) ≤ nI i := by rw [n0, nI_leI (by omega) (by omega)]; omega
    have := h4 L (by omega)
    constructor
    · intro _; omega
    · intro _
      rw [Int32.lt_iff_toInt_lt] at this ⊢
      rw [Int32.le_iff_toInt_le] at h0
      omega
theorem law_loop (C : zV G p s m meth c b L xs) (hr : meth.sig.returnType = ret) (hlocks : meth.locks = false) : ∀ (n i : Nat) (D : zM) (s0 : zA), i ≤ L → L < i + n → zI D s0 → zL G p l e s m below meth c b 18 (lwv i) [] D := by
  intro n
  have hL := C.2.2.2.2
  have hb59 : G.1 59 = b := C.2.2.2.1
  induction n with
  | zero => intro i D s0 h1 h2; omega
  | succ n ih =>
    intro i D s0 h1 h2 hI
    have step : i + 4 ≤ L → ∀ D1 s1, zI D1 s1 → zL G p l e s m below meth c b 814 (lwv i) [] D1 := fun hi4 D1 s1 hI1 H locs la hP hS hl => by
      have hl' := hl.1
      refine lv_iinc (x := nI i) (v := nI (i + 4)) (lv' := (3, .int (nI (i + 4))) :: (z_ll G (lwv i)).filter (fun q => !(q.1 == 3) && !(q.1 + 1 == 3 && q.2.category == 2))) C.hx C.hb dL_law_814 hl' (k := 3) rfl (nI_add i 4) (by decide) rfl (fun la2 hl2 => ?_)
      refine lv_goto (tgt := 18) C.hx C.hb dL_law_817 (by decide) ?_
      exact ih (i + 4) D1 s1 hi4 (by omega) hI1 H locs la2 hP hS (hl.set (i := 3) (v := .int (nI (i + 4))) rfl hl2)
    intro H locs la hP hS hl
    have hl0 : la[0]? = some (.val (.ref b)) := by
      have := hl.at (i := 0) (v := .ref 59) rfl
      rw [show z_v G (.ref 59) = .ref b from congrArg Value.ref hb59] at this
      exact this
    have hl3 : la[3]? = some (.val (.int (nI i))) := hl.at (i := 3) (v := .int (nI i)) rfl
    have hbA : ¬ (fun q : Nat => s.heap.size ≤ q) b := Nat.not_le.mpr C.1.2.2.2.2.2.2.2.1
    refine lv_iload_n C.hx C.hb dL_law_18 rfl hl3 ?_
    refine lv_aload_n C.hx C.hb dL_law_19 rfl hl0 ?_
    refine va_slen C.hx C.hb C.1.2.2.2.2.2.2.1 C.1.2.2.2.2.2.2.2.1 hbA hS dL_law_20 ?_
    refine lv_iconst (v := 4) C.hx C.hb dL_law_21 (by decide) ?_
    refine lv_isub C.hx C.hb dL_law_22 ?_
    refine lv_icmp_gt (tgt := 820) C.hx C.hb dL_law_23 (by decide) (fun z => ?_) (fun z => ?_)
    · refine lv_iconst (v := 1) C.hx C.hb dL_law_820 (by decide) ?_
      refine W.widen (k := 600000) (n := 7302250) (Nat.le_of_ble_eq_true rfl) (Nat.le_of_ble_eq_true rfl) ?_
      refine va_forget hS.2.2 ?_
      exact lw_ret C.hx C.hb hr hlocks dL_law_821
    · have hi4 : i + 4 ≤ L := by
        rcases Nat.lt_or_ge L (i + 4) with q | q
        · exact absurd ((lenm4 (by omega) hL).mpr (by omega)) z
        · exact q
      have k := step hi4
      refine lv_aload_n C.hx C.hb dL_law_26 rfl hl0 ?_
      refine lv_iload_n C.hx C.hb dL_law_27 rfl hl3 ?_
      refine va_sld C.hx C.hb C.1.2.2.2.2.2.2.1 C.1.2.2.2.2.2.2.2.1 hbA hS (vp_in_nI (by omega) (by omega)) dL_law_28 ?_
      refine lv_bipush (v := 31) C.hx C.hb dL_law_29 (by decide) ?_
      refine lv_iand C.hx C.hb dL_law_31 ?_
      obtain ⟨v, hv, ev⟩ := and31 (xs (nI i).toNatClampNeg)
      rw [ev]
      have hcase : v = 0 ∨ v = 1 ∨ v = 2 ∨ v = 3 ∨ v = 4 ∨ v = 5 ∨ v = 6 ∨ v = 7 ∨ v = 8 ∨ v = 9 ∨ v = 10 ∨ v = 11 ∨ v = 12 ∨ v = 13 ∨ v = 14 ∨ v = 15 ∨ v = 16 ∨ v = 17 ∨ v = 18 ∨ v = 19 ∨ v = 20 ∨ v = 21 ∨ 22 ≤ v := by omega
      rcases hcase with rfl | rfl | rfl | rfl | rfl | rfl | rfl | rfl | rfl | rfl | rfl | rfl | rfl | rfl | rfl | rfl | rfl | rfl | rfl | rfl | rfl | rfl | hv22
      · exact lv_tableIn (tgt := 136) C.hx C.hb dL_law_32 (by decide) (by decide) (off := 104) (by decide) (by decide) (law_0 C hI hi4 k H locs la hP hS hl)
      · exact lv_tableIn (tgt := 179) C.hx C.hb dL_law_32 (by decide) (by decide) (off := 147) (by decide) (by decide) (law_1 C hI hi4 k H locs la hP hS hl)
      · exact lv_tableIn (tgt := 192) C.hx C.hb dL_law_32 (by decide) (by decide) (off := 160) (by decide) (by decide) (law_2 C hI hi4 k H locs la hP hS hl)
      · exact lv_tableIn (tgt := 241) C.hx C.hb dL_law_32 (by decide) (by decide) (off := 209) (by decide) (by decide) (law_3 C hI hi4 k H locs la hP hS hl)
      · exact lv_tableIn (tgt := 274) C.hx C.hb dL_law_32 (by decide) (by decide) (off := 242) (by decide) (by decide) (law_4 C hI hi4 k H locs la hP hS hl)
      · exact lv_tableIn (tgt := 297) C.hx C.hb dL_law_32 (by decide) (by decide) (off := 265) (by decide) (by decide) (law_5 C hI hi4 k H locs la hP hS hl)
      · exact lv_tableIn (tgt := 330) C.hx C.hb dL_law_32 (by decide) (by decide) (off := 298) (by decide) (by decide) (law_6 C hI hi4 k H locs la hP hS hl)
      · exact lv_tableIn (tgt := 379) C.hx C.hb dL_law_32 (by decide) (by decide) (off := 347) (by decide) (by decide) (law_7 C hI hi4 k H locs la hP hS hl)
      · exact lv_tableIn (tgt := 402) C.hx C.hb dL_law_32 (by decide) (by decide) (off := 370) (by decide) (by decide) (law_8 C hI hi4 k H locs la hP hS hl)
      · exact lv_tableIn (tgt := 445) C.hx C.hb dL_law_32 (by decide) (by decide) (off := 413) (by decide) (by decide) (law_9 C hI hi4 k H locs la hP hS hl)
      · exact lv_tableIn (tgt := 478) C.hx C.hb dL_law_32 (by decide) (by decide) (off := 446) (by decide) (by decide) (law_10 C hI hi4 k H locs la hP hS hl)
      · exact lv_tableIn (tgt := 511) C.hx C.hb dL_law_32 (by decide) (by decide) (off := 479) (by decide) (by decide) (law_11 C hI hi4 k H locs la hP hS hl)
      · exact lv_tableIn (tgt := 554) C.hx C.hb dL_law_32 (by decide) (by decide) (off := 522) (by decide) (by decide) (law_12 C hI hi4 k H locs la hP hS hl)
      · exact lv_tableIn (tgt := 577) C.hx C.hb dL_law_32 (by decide) (by decide) (off := 545) (by decide) (by decide) (law_13 C hI hi4 k H locs la hP hS hl)
      · exact lv_tableIn (tgt := 620) C.hx C.hb dL_law_32 (by decide) (by decide) (off := 588) (by decide) (by decide) (law_14 C hI hi4 k H locs la hP hS hl)
      · exact lv_tableIn (tgt := 643) C.hx C.hb dL_law_32 (by decide) (by decide) (off := 611) (by decide) (by decide) (law_15 C hI hi4 k H locs la hP hS hl)
      · exact lv_tableIn (tgt := 676) C.hx C.hb dL_law_32 (by decide) (by decide) (off := 644) (by decide) (by decide) (law_16 C hI hi4 k H locs la hP hS hl)
      · exact lv_tableIn (tgt := 699) C.hx C.hb dL_law_32 (by decide) (by decide) (off := 667) (by decide) (by decide) (law_17 C hI hi4 k H locs la hP hS hl)
      · exact lv_tableIn (tgt := 722) C.hx C.hb dL_law_32 (by decide) (by decide) (off := 690) (by decide) (by decide) (law_18 C hI hi4 k H locs la hP hS hl)
      · exact lv_tableIn (tgt := 755) C.hx C.hb dL_law_32 (by decide) (by decide) (off := 723) (by decide) (by decide) (law_19 C hI hi4 k H locs la hP hS hl)
      · exact lv_tableIn (tgt := 778) C.hx C.hb dL_law_32 (by decide) (by decide) (off := 746) (by decide) (by decide) (law_20 C hI hi4 k H locs la hP hS hl)
      · exact lv_tableIn (tgt := 791) C.hx C.hb dL_law_32 (by decide) (by decide) (off := 759) (by decide) (by decide) (law_21 C hI hi4 k H locs la hP hS hl)
      · refine lv_tableOut (tgt := 814) C.hx C.hb dL_law_32 (Or.inr ?_) (by decide) (k D s0 hI H locs la hP hS hl)
        rw [nI_toInt (by omega)]
        omega
end ZLW
