/-! THE CLAIM OUT OF ONE WALK OF THE LAW'S BODY. Your part is whole_start (and what it stands on); all else here is the same for every law, but numbers. -/
def R_law : String := "EdgesFitLaw"
def lw_P (b : Addr) (xs : List Int32) (args : Array Value) (s : State) : Prop := args = #[.ref b] ∧ s.IntsAt b xs ∧ xs.length ≤ 3072 ∧ (Jvm.Cond.and given_1 narrow_1).before args s = true
def lw_Q (_ : Array Value) (s : State) (o : Outcome) (t : State) : Prop := o = .returned (some (.int 1)) ∧ Framed s o t [] 600000 7302249
def lw_Z (below : List Frame) (a : Array Value) (s : State) : State → Prop := fun t => ∃ o, t.status = .running ∧ Ended t below o ∧ lw_Q a s o t
/-- the law's own end, with 1 on the stack, nothing written that was there before, its room as the claim has it -/
theorem lw_ret {p : Program} {l : Launch} {e : Env} {s : State} {m : MethodId} {below : List Frame} {meth : Method} {c : Code} {b : Nat} (hx : p.tables.exec = Jvm.exec) (hb : c.code = code) (hr : meth.sig.returnType = ret) (hlocks : meth.locks = false) {pc : Nat} {H : Heap} {ls : Array Slot} (hdg : decode code pc = .ok (.ireturn, 1)) : W p l e room_1 s m #[Value.ref b] below meth c H [] 600000 7302249 (lw_Z below #[Value.ref b] s) (F0 m pc ls [.int 1]) := by
  intro T hT X
  obtain ⟨fs, hret, hrun, hended, hW, hframe⟩ := X.leave (v := some (.int 1)) (hlocks := hlocks) (fun h => by rw [hr] at h; cases h)
  have hmeth' : T.vm.method? m = some meth := X.method'
  refine ⟨T.setFrames fs, ?_, .returned (some (.int 1)), hrun, hended, rfl, ⟨_, rfl⟩, hW, hframe⟩
  jvm_step X.here [X.here.top, hx, hb, hdg, hmeth', hr, ret, narrow_b1]
  (try refine ⟨rfl, ?_⟩); (try refine ⟨rfl, ?_⟩)
  first | (intro acts; rw [hret _ acts rfl rfl rfl]) | rw [hret _ _ rfl rfl rfl]
  exact Steps.refl _
/-- what holds at the law's entry: the machine, the code, the tables' words (any of lw_tbl by 'hts w (by decide +kernel)'), the script of L ints xs at the cell b, what the Statement gives of the start (any of its parts by flat_of_before) -/
def lw_At (p : Program) (s : State) (m : MethodId) (meth : Method) (c : Code) (b L : Nat) (xs : Nat → Int32) : Prop :=
  p.tables.exec = Jvm.exec ∧ c.code = code ∧ meth.sig.returnType = ret ∧ c.maxLocals = 4 ∧ s.vm.findClass R_law = some m.cls ∧ (∀ w ∈ lw_tbl, w.before #[Value.ref b] s = true) ∧ va_X b L xs s s.heap ∧ b < s.heap.size ∧ meth.locks = false ∧ (Jvm.Cond.and given_1 narrow_1).before #[Value.ref b] s = true

theorem lc_self (x : Int64) : lg_cmp x x = 0 := by simp [lg_cmp]
section LAW
variable {p : Program} {l : Launch} {e : Env} {s : State} {m : MethodId} {below : List Frame} {meth : Method} {c : Code} {G : GG} {b L : Nat} {xs : Nat → Int32} {Inv : Mem → Prop}
abbrev LW (p : Program) (l : Launch) (e : Env) (s : State) (m : MethodId) (below : List Frame) (meth : Method) (c : Code) (b : Nat) (H : Heap) (locs : List Loc) (pc : Nat) (ls : Array Slot) (st : List Value) : Prop := W p l e room_1 s m #[Value.ref b] below meth c H locs 600000 7302249 (lw_Z below #[Value.ref b] s) (F0 m pc ls st)
abbrev LL (G : GG) (b i : Nat) : List (Nat × Value) := [(0, .ref b), (1, .ref (xa G 0)), (2, .ref (xa G 132)), (3, .int (nI i))]
abbrev LN (p : Program) (l : Launch) (e : Env) (s : State) (m : MethodId) (below : List Frame) (meth : Method) (c : Code) (G : GG) (b i : Nat) (Inv : Mem → Prop) (pc : Nat) : Prop := ∀ (M : Mem) (h : Int64) (H : Heap) (locs : List Loc) (ls : Array Slot), Inv M → va_P G.1 vwCl (wl G M h) H → va_S (Aw G) s.heap H locs → lv_has ls 4 (LL G b i) → LW p l e s m below meth c b H locs pc ls []
theorem sc_in {i k : Nat} (hi : i + 6 ≤ L) (hL : L ≤ 3072) (hk : k < 6) : vp_in (nI i + nI k) L := by rw [nI_add]; exact vp_in_nI (by omega) (by omega)
set_option maxRecDepth 100000 in
set_option maxHeartbeats 4000000 in
theorem law_c0 (C : CallFix p m c cL_law 4 s #[Value.ref b] TB RL) (hE : EnvOK G s) (hX : va_X b L xs s s.heap) (hbl : b < s.heap.size) (hbA : ¬ Aw G b) {i : Nat} (hi : i + 6 ≤ L) (hL : L ≤ 3072) (hst : ST_cell Inv) (hn : LN p l e s m below meth c G b i Inv 1339) : LN p l e s m below meth c G b i Inv 176 := by
  intro M h H locs ls hinv hP hS hl
  have hx := C.1
  have hb := C.2.1
  refine lv_aload_n hx hb dL_law_176 rfl (lv_at hl 1 rfl) ?_
  refine lv_aload_n hx hb dL_law_177 rfl (lv_at hl 0 rfl) ?_
  refine lv_iload_n hx hb dL_law_178 rfl (lv_at hl 3 rfl) ?_
  refine lv_iconst (v := 1) hx hb dL_law_179 (by decide) ?_
  refine lv_iadd hx hb dL_law_180 ?_
  refine va_sld hx hb hX hbl hbA hS (sc_in (k := 1) hi hL (by decide)) dL_law_181 ?_
  refine lv_aload_n hx hb dL_law_182 rfl (lv_at hl 0 rfl) ?_
  refine lv_iload_n hx hb dL_law_183 rfl (lv_at hl 3 rfl) ?_
  refine lv_iconst (v := 2) hx hb dL_law_184 (by decide) ?_
  refine lv_iadd hx hb dL_law_185 ?_
  refine va_sld hx hb hX hbl hbA hS (sc_in (k := 2) hi hL (by decide)) dL_law_186 ?_
  refine x_ci1 (rest := []) (x_runV C hE hP hS ykX11_cell lkL_13 sh0 rfl (c_X11_cell (hst _ _ _ hinv)) (by decide) rfl hl.1 (Nat.le_of_ble_eq_true rfl) dL_law_187) hS (fun r0 M0 H locs hq hP hS => ?_)
  refine lv_aload_n hx hb dL_law_190 rfl (lv_at hl 2 rfl) ?_
  refine lv_aload_n hx hb dL_law_191 rfl (lv_at hl 0 rfl) ?_
  refine lv_iload_n hx hb dL_law_192 rfl (lv_at hl 3 rfl) ?_
  refine lv_iconst (v := 1) hx hb dL_law_193 (by decide) ?_
  refine lv_iadd hx hb dL_law_194 ?_
  refine va_sld hx hb hX hbl hbA hS (sc_in (k := 1) hi hL (by decide)) dL_law_195 ?_
  refine lv_aload_n hx hb dL_law_196 rfl (lv_at hl 0 rfl) ?_
  refine lv_iload_n hx hb dL_law_197 rfl (lv_at hl 3 rfl) ?_
  refine lv_iconst (v := 2) hx hb dL_law_198 (by decide) ?_
  refine lv_iadd hx hb dL_law_199 ?_
  refine va_sld hx hb hX hbl hbA hS (sc_in (k := 2) hi hL (by decide)) dL_law_200 ?_
  refine x_ci1 (rest := [.int r0]) (x_runV C hE hP hS ykX12_cell lkL_17 sh132 rfl (c_X12_cell hq) (by decide) rfl hl.1 (Nat.le_of_ble_eq_true rfl) dL_law_201) hS (fun r1 M1 H locs hq hP hS => ?_)
  refine lv_icmp_eq (tgt := 1339) hx hb dL_law_204 (by decide) (fun hc => ?_) (fun hc => absurd hq.1.symm hc)
  exact hn _ _ H locs ls hq.2 hP hS (lv_sub hl [0, 1, 2, 3] rfl)
set_option maxRecDepth 100000 in
set_option maxHeartbeats 4000000 in
theorem law_c1 (C : CallFix p m c cL_law 4 s #[Value.ref b] TB RL) (hE : EnvOK G s) (hX : va_X b L xs s s.heap) (hbl : b < s.heap.size) (hbA : ¬ Aw G b) {i : Nat} (hi : i + 6 ≤ L) (hL : L ≤ 3072) (hst : ST_run Inv) (hn : LN p l e s m below meth c G b i Inv 1339) : LN p l e s m below meth c G b i Inv 209 := by
  intro M h H locs ls hinv hP hS hl
  have hx := C.1
  have hb := C.2.1
  refine lv_aload_n hx hb dL_law_209 rfl (lv_at hl 1 rfl) ?_
  refine lv_aload_n hx hb dL_law_210 rfl (lv_at hl 0 rfl) ?_
  refine lv_iload_n hx hb dL_law_211 rfl (lv_at hl 3 rfl) ?_
  refine lv_iconst (v := 1) hx hb dL_law_212 (by decide) ?_
  refine lv_iadd hx hb dL_law_213 ?_
  refine va_sld hx hb hX hbl hbA hS (sc_in (k := 1) hi hL (by decide)) dL_law_214 ?_
  refine lv_aload_n hx hb dL_law_215 rfl (lv_at hl 0 rfl) ?_
  refine lv_iload_n hx hb dL_law_216 rfl (lv_at hl 3 rfl) ?_
  refine lv_iconst (v := 2) hx hb dL_law_217 (by decide) ?_
  refine lv_iadd hx hb dL_law_218 ?_
  refine va_sld hx hb hX hbl hbA hS (sc_in (k := 2) hi hL (by decide)) dL_law_219 ?_
  refine lv_aload_n hx hb dL_law_220 rfl (lv_at hl 0 rfl) ?_
  refine lv_iload_n hx hb dL_law_221 rfl (lv_at hl 3 rfl) ?_
  refine lv_iconst (v := 3) hx hb dL_law_222 (by decide) ?_
  refine lv_iadd hx hb dL_law_223 ?_
  refine va_sld hx hb hX hbl hbA hS (sc_in (k := 3) hi hL (by decide)) dL_law_224 ?_
  refine lv_aload_n hx hb dL_law_225 rfl (lv_at hl 0 rfl) ?_
  refine lv_iload_n hx hb dL_law_226 rfl (lv_at hl 3 rfl) ?_
  refine lv_iconst (v := 4) hx hb dL_law_227 (by decide) ?_
  refine lv_iadd hx hb dL_law_228 ?_
  refine va_sld hx hb hX hbl hbA hS (sc_in (k := 4) hi hL (by decide)) dL_law_229 ?_
  refine x_ci1 (rest := []) (x_runV C hE hP hS ykX11_run lkL_18 sh0 rfl (c_X11_run (hst _ _ _ _ _ hinv)) (by decide) rfl hl.1 (Nat.le_of_ble_eq_true rfl) dL_law_230) hS (fun r0 M0 H locs hq hP hS => ?_)
  refine lv_aload_n hx hb dL_law_233 rfl (lv_at hl 2 rfl) ?_
  refine lv_aload_n hx hb dL_law_234 rfl (lv_at hl 0 rfl) ?_
  refine lv_iload_n hx hb dL_law_235 rfl (lv_at hl 3 rfl) ?_
  refine lv_iconst (v := 1) hx hb dL_law_236 (by decide) ?_
  refine lv_iadd hx hb dL_law_237 ?_
  refine va_sld hx hb hX hbl hbA hS (sc_in (k := 1) hi hL (by decide)) dL_law_238 ?_
  refine lv_aload_n hx hb dL_law_239 rfl (lv_at hl 0 rfl) ?_
  refine lv_iload_n hx hb dL_law_240 rfl (lv_at hl 3 rfl) ?_
  refine lv_iconst (v := 2) hx hb dL_law_241 (by decide) ?_
  refine lv_iadd hx hb dL_law_242 ?_
  refine va_sld hx hb hX hbl hbA hS (sc_in (k := 2) hi hL (by decide)) dL_law_243 ?_
  refine lv_aload_n hx hb dL_law_244 rfl (lv_at hl 0 rfl) ?_
  refine lv_iload_n hx hb dL_law_245 rfl (lv_at hl 3 rfl) ?_
  refine lv_iconst (v := 3) hx hb dL_law_246 (by decide) ?_
  refine lv_iadd hx hb dL_law_247 ?_
  refine va_sld hx hb hX hbl hbA hS (sc_in (k := 3) hi hL (by decide)) dL_law_248 ?_
  refine lv_aload_n hx hb dL_law_249 rfl (lv_at hl 0 rfl) ?_
  refine lv_iload_n hx hb dL_law_250 rfl (lv_at hl 3 rfl) ?_
  refine lv_iconst (v := 4) hx hb dL_law_251 (by decide) ?_
  refine lv_iadd hx hb dL_law_252 ?_
  refine va_sld hx hb hX hbl hbA hS (sc_in (k := 4) hi hL (by decide)) dL_law_253 ?_
  refine x_ci1 (rest := [.int r0]) (x_runV C hE hP hS ykX12_run lkL_22 sh132 rfl (c_X12_run hq) (by decide) rfl hl.1 (Nat.le_of_ble_eq_true rfl) dL_law_254) hS (fun r1 M1 H locs hq hP hS => ?_)
  refine lv_icmp_eq (tgt := 1339) hx hb dL_law_257 (by decide) (fun hc => ?_) (fun hc => absurd hq.1.symm hc)
  exact hn _ _ H locs ls hq.2 hP hS (lv_sub hl [0, 1, 2, 3] rfl)
set_option maxRecDepth 100000 in
set_option maxHeartbeats 4000000 in
theorem law_c2 (C : CallFix p m c cL_law 4 s #[Value.ref b] TB RL) (hE : EnvOK G s) (hX : va_X b L xs s s.heap) (hbl : b < s.heap.size) (hbA : ¬ Aw G b) {i : Nat} (hi : i + 6 ≤ L) (hL : L ≤ 3072) (hst : ST_land Inv) (hn : LN p l e s m below meth c G b i Inv 1339) : LN p l e s m below meth c G b i Inv 262 := by
  intro M h H locs ls hinv hP hS hl
  have hx := C.1
  have hb := C.2.1
  refine lv_aload_n hx hb dL_law_262 rfl (lv_at hl 1 rfl) ?_
  refine lv_aload_n hx hb dL_law_263 rfl (lv_at hl 0 rfl) ?_
  refine lv_iload_n hx hb dL_law_264 rfl (lv_at hl 3 rfl) ?_
  refine lv_iconst (v := 1) hx hb dL_law_265 (by decide) ?_
  refine lv_iadd hx hb dL_law_266 ?_
  refine va_sld hx hb hX hbl hbA hS (sc_in (k := 1) hi hL (by decide)) dL_law_267 ?_
  refine lv_aload_n hx hb dL_law_268 rfl (lv_at hl 0 rfl) ?_
  refine lv_iload_n hx hb dL_law_269 rfl (lv_at hl 3 rfl) ?_
  refine lv_iconst (v := 2) hx hb dL_law_270 (by decide) ?_
  refine lv_iadd hx hb dL_law_271 ?_
  refine va_sld hx hb hX hbl hbA hS (sc_in (k := 2) hi hL (by decide)) dL_law_272 ?_
  refine x_ci0 (rest := []) (x_runV C hE hP hS ykX11_land lkL_23 sh0 rfl (c_X11_land (hst _ _ _ hinv)) (by decide) rfl hl.1 (Nat.le_of_ble_eq_true rfl) dL_law_273) hS (fun r0 H locs hq hP hS => ?_)
  refine lv_aload_n hx hb dL_law_276 rfl (lv_at hl 2 rfl) ?_
  refine lv_aload_n hx hb dL_law_277 rfl (lv_at hl 0 rfl) ?_
  refine lv_iload_n hx hb dL_law_278 rfl (lv_at hl 3 rfl) ?_
  refine lv_iconst (v := 1) hx hb dL_law_279 (by decide) ?_
  refine lv_iadd hx hb dL_law_280 ?_
  refine va_sld hx hb hX hbl hbA hS (sc_in (k := 1) hi hL (by decide)) dL_law_281 ?_
  refine lv_aload_n hx hb dL_law_282 rfl (lv_at hl 0 rfl) ?_
  refine lv_iload_n hx hb dL_law_283 rfl (lv_at hl 3 rfl) ?_
  refine lv_iconst (v := 2) hx hb dL_law_284 (by decide) ?_
  refine lv_iadd hx hb dL_law_285 ?_
  refine va_sld hx hb hX hbl hbA hS (sc_in (k := 2) hi hL (by decide)) dL_law_286 ?_
  refine x_ci0 (rest := [.int r0]) (x_runV C hE hP hS ykX12_land lkL_26 sh132 rfl (c_X12_land hq) (by decide) rfl hl.1 (Nat.le_of_ble_eq_true rfl) dL_law_287) hS (fun r1 H locs hq hP hS => ?_)
  refine lv_icmp_eq (tgt := 1339) hx hb dL_law_290 (by decide) (fun hc => ?_) (fun hc => absurd hq.1.symm hc)
  exact hn _ _ H locs ls hq.2 hP hS (lv_sub hl [0, 1, 2, 3] rfl)
set_option maxRecDepth 100000 in
set_option maxHeartbeats 4000000 in
theorem law_c3 (C : CallFix p m c cL_law 4 s #[Value.ref b] TB RL) (hE : EnvOK G s) (hX : va_X b L xs s s.heap) (hbl : b < s.heap.size) (hbA : ¬ Aw G b) {i : Nat} (hi : i + 6 ≤ L) (hL : L ≤ 3072) (hst : ST_mark Inv) (hn : LN p l e s m below meth c G b i Inv 1339) : LN p l e s m below meth c G b i Inv 295 := by
  intro M h H locs ls hinv hP hS hl
  have hx := C.1
  have hb := C.2.1
  refine lv_aload_n hx hb dL_law_295 rfl (lv_at hl 1 rfl) ?_
  refine lv_aload_n hx hb dL_law_296 rfl (lv_at hl 0 rfl) ?_
  refine lv_iload_n hx hb dL_law_297 rfl (lv_at hl 3 rfl) ?_
  refine lv_iconst (v := 1) hx hb dL_law_298 (by decide) ?_
  refine lv_iadd hx hb dL_law_299 ?_
  refine va_sld hx hb hX hbl hbA hS (sc_in (k := 1) hi hL (by decide)) dL_law_300 ?_
  refine lv_aload_n hx hb dL_law_301 rfl (lv_at hl 0 rfl) ?_
  refine lv_iload_n hx hb dL_law_302 rfl (lv_at hl 3 rfl) ?_
  refine lv_iconst (v := 2) hx hb dL_law_303 (by decide) ?_
  refine lv_iadd hx hb dL_law_304 ?_
  refine va_sld hx hb hX hbl hbA hS (sc_in (k := 2) hi hL (by decide)) dL_law_305 ?_
  refine lv_aload_n hx hb dL_law_306 rfl (lv_at hl 0 rfl) ?_
  refine lv_iload_n hx hb dL_law_307 rfl (lv_at hl 3 rfl) ?_
  refine lv_iconst (v := 3) hx hb dL_law_308 (by decide) ?_
  refine lv_iadd hx hb dL_law_309 ?_
  refine va_sld hx hb hX hbl hbA hS (sc_in (k := 3) hi hL (by decide)) dL_law_310 ?_
  refine x_ci1 (rest := []) (x_runV C hE hP hS ykX11_mark lkL_27 sh0 rfl (c_X11_mark (hst _ _ _ _ hinv)) (by decide) rfl hl.1 (Nat.le_of_ble_eq_true rfl) dL_law_311) hS (fun r0 M0 H locs hq hP hS => ?_)
  refine lv_aload_n hx hb dL_law_314 rfl (lv_at hl 2 rfl) ?_
  refine lv_aload_n hx hb dL_law_315 rfl (lv_at hl 0 rfl) ?_
  refine lv_iload_n hx hb dL_law_316 rfl (lv_at hl 3 rfl) ?_
  refine lv_iconst (v := 1) hx hb dL_law_317 (by decide) ?_
  refine lv_iadd hx hb dL_law_318 ?_
  refine va_sld hx hb hX hbl hbA hS (sc_in (k := 1) hi hL (by decide)) dL_law_319 ?_
  refine lv_aload_n hx hb dL_law_320 rfl (lv_at hl 0 rfl) ?_
  refine lv_iload_n hx hb dL_law_321 rfl (lv_at hl 3 rfl) ?_
  refine lv_iconst (v := 2) hx hb dL_law_322 (by decide) ?_
  refine lv_iadd hx hb dL_law_323 ?_
  refine va_sld hx hb hX hbl hbA hS (sc_in (k := 2) hi hL (by decide)) dL_law_324 ?_
  refine lv_aload_n hx hb dL_law_325 rfl (lv_at hl 0 rfl) ?_
  refine lv_iload_n hx hb dL_law_326 rfl (lv_at hl 3 rfl) ?_
  refine lv_iconst (v := 3) hx hb dL_law_327 (by decide) ?_
  refine lv_iadd hx hb dL_law_328 ?_
  refine va_sld hx hb hX hbl hbA hS (sc_in (k := 3) hi hL (by decide)) dL_law_329 ?_
  refine x_ci1 (rest := [.int r0]) (x_runV C hE hP hS ykX12_mark lkL_31 sh132 rfl (c_X12_mark hq) (by decide) rfl hl.1 (Nat.le_of_ble_eq_true rfl) dL_law_330) hS (fun r1 M1 H locs hq hP hS => ?_)
  refine lv_icmp_eq (tgt := 1339) hx hb dL_law_333 (by decide) (fun hc => ?_) (fun hc => absurd hq.1.symm hc)
  exact hn _ _ H locs ls hq.2 hP hS (lv_sub hl [0, 1, 2, 3] rfl)
set_option maxRecDepth 100000 in
set_option maxHeartbeats 4000000 in
theorem law_c4 (C : CallFix p m c cL_law 4 s #[Value.ref b] TB RL) (hE : EnvOK G s) (hX : va_X b L xs s s.heap) (hbl : b < s.heap.size) (hbA : ¬ Aw G b) {i : Nat} (hi : i + 6 ≤ L) (hL : L ≤ 3072) (hst : ST_as Inv) (hn : LN p l e s m below meth c G b i Inv 1339) : LN p l e s m below meth c G b i Inv 338 := by
  intro M h H locs ls hinv hP hS hl
  have hx := C.1
  have hb := C.2.1
  refine lv_aload_n hx hb dL_law_338 rfl (lv_at hl 1 rfl) ?_
  refine lv_aload_n hx hb dL_law_339 rfl (lv_at hl 0 rfl) ?_
  refine lv_iload_n hx hb dL_law_340 rfl (lv_at hl 3 rfl) ?_
  refine lv_iconst (v := 1) hx hb dL_law_341 (by decide) ?_
  refine lv_iadd hx hb dL_law_342 ?_
  refine va_sld hx hb hX hbl hbA hS (sc_in (k := 1) hi hL (by decide)) dL_law_343 ?_
  refine lv_aload_n hx hb dL_law_344 rfl (lv_at hl 0 rfl) ?_
  refine lv_iload_n hx hb dL_law_345 rfl (lv_at hl 3 rfl) ?_
  refine lv_iconst (v := 2) hx hb dL_law_346 (by decide) ?_
  refine lv_iadd hx hb dL_law_347 ?_
  refine va_sld hx hb hX hbl hbA hS (sc_in (k := 2) hi hL (by decide)) dL_law_348 ?_
  refine x_ci0 (rest := []) (x_runV C hE hP hS ykX11_as lkL_32 sh0 rfl (c_X11_as (hst _ _ _ hinv)) (by decide) rfl hl.1 (Nat.le_of_ble_eq_true rfl) dL_law_349) hS (fun r0 H locs hq hP hS => ?_)
  refine lv_aload_n hx hb dL_law_352 rfl (lv_at hl 2 rfl) ?_
  refine lv_aload_n hx hb dL_law_353 rfl (lv_at hl 0 rfl) ?_
  refine lv_iload_n hx hb dL_law_354 rfl (lv_at hl 3 rfl) ?_
  refine lv_iconst (v := 1) hx hb dL_law_355 (by decide) ?_
  refine lv_iadd hx hb dL_law_356 ?_
  refine va_sld hx hb hX hbl hbA hS (sc_in (k := 1) hi hL (by decide)) dL_law_357 ?_
  refine lv_aload_n hx hb dL_law_358 rfl (lv_at hl 0 rfl) ?_
  refine lv_iload_n hx hb dL_law_359 rfl (lv_at hl 3 rfl) ?_
  refine lv_iconst (v := 2) hx hb dL_law_360 (by decide) ?_
  refine lv_iadd hx hb dL_law_361 ?_
  refine va_sld hx hb hX hbl hbA hS (sc_in (k := 2) hi hL (by decide)) dL_law_362 ?_
  refine x_ci0 (rest := [.int r0]) (x_runV C hE hP hS ykX12_as lkL_35 sh132 rfl (c_X12_as hq) (by decide) rfl hl.1 (Nat.le_of_ble_eq_true rfl) dL_law_363) hS (fun r1 H locs hq hP hS => ?_)
  refine lv_icmp_eq (tgt := 1339) hx hb dL_law_366 (by decide) (fun hc => ?_) (fun hc => absurd hq.1.symm hc)
  exact hn _ _ H locs ls hq.2 hP hS (lv_sub hl [0, 1, 2, 3] rfl)
set_option maxRecDepth 100000 in
set_option maxHeartbeats 4000000 in
theorem law_c5 (C : CallFix p m c cL_law 4 s #[Value.ref b] TB RL) (hE : EnvOK G s) (hX : va_X b L xs s s.heap) (hbl : b < s.heap.size) (hbA : ¬ Aw G b) {i : Nat} (hi : i + 6 ≤ L) (hL : L ≤ 3072) (hst : ST_about Inv) (hn : LN p l e s m below meth c G b i Inv 1339) : LN p l e s m below meth c G b i Inv 371 := by
  intro M h H locs ls hinv hP hS hl
  have hx := C.1
  have hb := C.2.1
  refine lv_aload_n hx hb dL_law_371 rfl (lv_at hl 1 rfl) ?_
  refine lv_aload_n hx hb dL_law_372 rfl (lv_at hl 0 rfl) ?_
  refine lv_iload_n hx hb dL_law_373 rfl (lv_at hl 3 rfl) ?_
  refine lv_iconst (v := 1) hx hb dL_law_374 (by decide) ?_
  refine lv_iadd hx hb dL_law_375 ?_
  refine va_sld hx hb hX hbl hbA hS (sc_in (k := 1) hi hL (by decide)) dL_law_376 ?_
  refine lv_aload_n hx hb dL_law_377 rfl (lv_at hl 0 rfl) ?_
  refine lv_iload_n hx hb dL_law_378 rfl (lv_at hl 3 rfl) ?_
  refine lv_iconst (v := 2) hx hb dL_law_379 (by decide) ?_
  refine lv_iadd hx hb dL_law_380 ?_
  refine va_sld hx hb hX hbl hbA hS (sc_in (k := 2) hi hL (by decide)) dL_law_381 ?_
  refine x_ci0 (rest := []) (x_runV C hE hP hS ykX11_about lkL_36 sh0 rfl (c_X11_about (hst _ _ _ hinv)) (by decide) rfl hl.1 (Nat.le_of_ble_eq_true rfl) dL_law_382) hS (fun r0 H locs hq hP hS => ?_)
  refine lv_aload_n hx hb dL_law_385 rfl (lv_at hl 2 rfl) ?_
  refine lv_aload_n hx hb dL_law_386 rfl (lv_at hl 0 rfl) ?_
  refine lv_iload_n hx hb dL_law_387 rfl (lv_at hl 3 rfl) ?_
  refine lv_iconst (v := 1) hx hb dL_law_388 (by decide) ?_
  refine lv_iadd hx hb dL_law_389 ?_
  refine va_sld hx hb hX hbl hbA hS (sc_in (k := 1) hi hL (by decide)) dL_law_390 ?_
  refine lv_aload_n hx hb dL_law_391 rfl (lv_at hl 0 rfl) ?_
  refine lv_iload_n hx hb dL_law_392 rfl (lv_at hl 3 rfl) ?_
  refine lv_iconst (v := 2) hx hb dL_law_393 (by decide) ?_
  refine lv_iadd hx hb dL_law_394 ?_
  refine va_sld hx hb hX hbl hbA hS (sc_in (k := 2) hi hL (by decide)) dL_law_395 ?_
  refine x_ci0 (rest := [.int r0]) (x_runV C hE hP hS ykX12_about lkL_39 sh132 rfl (c_X12_about hq) (by decide) rfl hl.1 (Nat.le_of_ble_eq_true rfl) dL_law_396) hS (fun r1 H locs hq hP hS => ?_)
  refine lv_icmp_eq (tgt := 1339) hx hb dL_law_399 (by decide) (fun hc => ?_) (fun hc => absurd hq.1.symm hc)
  exact hn _ _ H locs ls hq.2 hP hS (lv_sub hl [0, 1, 2, 3] rfl)
set_option maxRecDepth 100000 in
set_option maxHeartbeats 4000000 in
theorem law_c6 (C : CallFix p m c cL_law 4 s #[Value.ref b] TB RL) (hE : EnvOK G s) (hX : va_X b L xs s s.heap) (hbl : b < s.heap.size) (hbA : ¬ Aw G b) {i : Nat} (hi : i + 6 ≤ L) (hL : L ≤ 3072) (hst : ST_goesOn Inv) (hn : LN p l e s m below meth c G b i Inv 1339) : LN p l e s m below meth c G b i Inv 404 := by
  intro M h H locs ls hinv hP hS hl
  have hx := C.1
  have hb := C.2.1
  refine lv_aload_n hx hb dL_law_404 rfl (lv_at hl 1 rfl) ?_
  refine lv_aload_n hx hb dL_law_405 rfl (lv_at hl 0 rfl) ?_
  refine lv_iload_n hx hb dL_law_406 rfl (lv_at hl 3 rfl) ?_
  refine lv_iconst (v := 1) hx hb dL_law_407 (by decide) ?_
  refine lv_iadd hx hb dL_law_408 ?_
  refine va_sld hx hb hX hbl hbA hS (sc_in (k := 1) hi hL (by decide)) dL_law_409 ?_
  refine lv_aload_n hx hb dL_law_410 rfl (lv_at hl 0 rfl) ?_
  refine lv_iload_n hx hb dL_law_411 rfl (lv_at hl 3 rfl) ?_
  refine lv_iconst (v := 2) hx hb dL_law_412 (by decide) ?_
  refine lv_iadd hx hb dL_law_413 ?_
  refine va_sld hx hb hX hbl hbA hS (sc_in (k := 2) hi hL (by decide)) dL_law_414 ?_
  refine x_ci0 (rest := []) (x_runV C hE hP hS ykX11_goesOn lkL_40 sh0 rfl (c_X11_goesOn (hst _ _ _ hinv)) (by decide) rfl hl.1 (Nat.le_of_ble_eq_true rfl) dL_law_415) hS (fun r0 H locs hq hP hS => ?_)
  refine lv_aload_n hx hb dL_law_418 rfl (lv_at hl 2 rfl) ?_
  refine lv_aload_n hx hb dL_law_419 rfl (lv_at hl 0 rfl) ?_
  refine lv_iload_n hx hb dL_law_420 rfl (lv_at hl 3 rfl) ?_
  refine lv_iconst (v := 1) hx hb dL_law_421 (by decide) ?_
  refine lv_iadd hx hb dL_law_422 ?_
  refine va_sld hx hb hX hbl hbA hS (sc_in (k := 1) hi hL (by decide)) dL_law_423 ?_
  refine lv_aload_n hx hb dL_law_424 rfl (lv_at hl 0 rfl) ?_
  refine lv_iload_n hx hb dL_law_425 rfl (lv_at hl 3 rfl) ?_
  refine lv_iconst (v := 2) hx hb dL_law_426 (by decide) ?_
  refine lv_iadd hx hb dL_law_427 ?_
  refine va_sld hx hb hX hbl hbA hS (sc_in (k := 2) hi hL (by decide)) dL_law_428 ?_
  refine x_ci0 (rest := [.int r0]) (x_runV C hE hP hS ykX12_goesOn lkL_43 sh132 rfl (c_X12_goesOn hq) (by decide) rfl hl.1 (Nat.le_of_ble_eq_true rfl) dL_law_429) hS (fun r1 H locs hq hP hS => ?_)
  refine lv_icmp_eq (tgt := 1339) hx hb dL_law_432 (by decide) (fun hc => ?_) (fun hc => absurd hq.1.symm hc)
  exact hn _ _ H locs ls hq.2 hP hS (lv_sub hl [0, 1, 2, 3] rfl)
set_option maxRecDepth 100000 in
set_option maxHeartbeats 4000000 in
theorem law_c7 (C : CallFix p m c cL_law 4 s #[Value.ref b] TB RL) (hE : EnvOK G s) (hX : va_X b L xs s s.heap) (hbl : b < s.heap.size) (hbA : ¬ Aw G b) {i : Nat} (hi : i + 6 ≤ L) (hL : L ≤ 3072) (hst : ST_drop Inv) (hn : LN p l e s m below meth c G b i Inv 1339) : LN p l e s m below meth c G b i Inv 437 := by
  intro M h H locs ls hinv hP hS hl
  have hx := C.1
  have hb := C.2.1
  refine lv_aload_n hx hb dL_law_437 rfl (lv_at hl 1 rfl) ?_
  refine x_ci1 (rest := []) (x_runV C hE hP hS ykX11_drop lkL_44 sh0 rfl (c_X11_drop (hst  _ hinv)) (by decide) rfl hl.1 (Nat.le_of_ble_eq_true rfl) dL_law_438) hS (fun r0 M0 H locs hq hP hS => ?_)
  refine lv_aload_n hx hb dL_law_441 rfl (lv_at hl 2 rfl) ?_
  refine x_ci1 (rest := [.int r0]) (x_runV C hE hP hS ykX12_drop lkL_48 sh132 rfl (c_X12_drop hq) (by decide) rfl hl.1 (Nat.le_of_ble_eq_true rfl) dL_law_442) hS (fun r1 M1 H locs hq hP hS => ?_)
  refine lv_icmp_eq (tgt := 1339) hx hb dL_law_445 (by decide) (fun hc => ?_) (fun hc => absurd hq.1.symm hc)
  exact hn _ _ H locs ls hq.2 hP hS (lv_sub hl [0, 1, 2, 3] rfl)
set_option maxRecDepth 100000 in
set_option maxHeartbeats 4000000 in
theorem law_c8 (C : CallFix p m c cL_law 4 s #[Value.ref b] TB RL) (hE : EnvOK G s) (hX : va_X b L xs s s.heap) (hbl : b < s.heap.size) (hbA : ¬ Aw G b) {i : Nat} (hi : i + 6 ≤ L) (hL : L ≤ 3072) (hst : ST_put Inv) (hn : LN p l e s m below meth c G b i Inv 1339) : LN p l e s m below meth c G b i Inv 450 := by
  intro M h H locs ls hinv hP hS hl
  have hx := C.1
  have hb := C.2.1
  refine lv_aload_n hx hb dL_law_450 rfl (lv_at hl 1 rfl) ?_
  refine lv_aload_n hx hb dL_law_451 rfl (lv_at hl 0 rfl) ?_
  refine lv_iload_n hx hb dL_law_452 rfl (lv_at hl 3 rfl) ?_
  refine lv_iconst (v := 1) hx hb dL_law_453 (by decide) ?_
  refine lv_iadd hx hb dL_law_454 ?_
  refine va_sld hx hb hX hbl hbA hS (sc_in (k := 1) hi hL (by decide)) dL_law_455 ?_
  refine lv_aload_n hx hb dL_law_456 rfl (lv_at hl 0 rfl) ?_
  refine lv_iload_n hx hb dL_law_457 rfl (lv_at hl 3 rfl) ?_
  refine lv_iconst (v := 2) hx hb dL_law_458 (by decide) ?_
  refine lv_iadd hx hb dL_law_459 ?_
  refine va_sld hx hb hX hbl hbA hS (sc_in (k := 2) hi hL (by decide)) dL_law_460 ?_
  refine lv_aload_n hx hb dL_law_461 rfl (lv_at hl 0 rfl) ?_
  refine lv_iload_n hx hb dL_law_462 rfl (lv_at hl 3 rfl) ?_
  refine lv_iconst (v := 3) hx hb dL_law_463 (by decide) ?_
  refine lv_iadd hx hb dL_law_464 ?_
  refine va_sld hx hb hX hbl hbA hS (sc_in (k := 3) hi hL (by decide)) dL_law_465 ?_
  refine lv_aload_n hx hb dL_law_466 rfl (lv_at hl 0 rfl) ?_
  refine lv_iload_n hx hb dL_law_467 rfl (lv_at hl 3 rfl) ?_
  refine lv_iconst (v := 4) hx hb dL_law_468 (by decide) ?_
  refine lv_iadd hx hb dL_law_469 ?_
  refine va_sld hx hb hX hbl hbA hS (sc_in (k := 4) hi hL (by decide)) dL_law_470 ?_
  refine lv_aload_n hx hb dL_law_471 rfl (lv_at hl 0 rfl) ?_
  refine lv_iload_n hx hb dL_law_472 rfl (lv_at hl 3 rfl) ?_
  refine lv_iconst (v := 5) hx hb dL_law_473 (by decide) ?_
  refine lv_iadd hx hb dL_law_474 ?_
  refine va_sld hx hb hX hbl hbA hS (sc_in (k := 5) hi hL (by decide)) dL_law_475 ?_
  refine x_ci1 (rest := []) (x_runV C hE hP hS ykX11_put lkL_49 sh0 rfl (c_X11_put (hst _ _ _ _ _ _ hinv)) (by decide) rfl hl.1 (Nat.le_of_ble_eq_true rfl) dL_law_476) hS (fun r0 M0 H locs hq hP hS => ?_)
  refine lv_aload_n hx hb dL_law_479 rfl (lv_at hl 2 rfl) ?_
  refine lv_aload_n hx hb dL_law_480 rfl (lv_at hl 0 rfl) ?_
  refine lv_iload_n hx hb dL_law_481 rfl (lv_at hl 3 rfl) ?_
  refine lv_iconst (v := 1) hx hb dL_law_482 (by decide) ?_
  refine lv_iadd hx hb dL_law_483 ?_
  refine va_sld hx hb hX hbl hbA hS (sc_in (k := 1) hi hL (by decide)) dL_law_484 ?_
  refine lv_aload_n hx hb dL_law_485 rfl (lv_at hl 0 rfl) ?_
  refine lv_iload_n hx hb dL_law_486 rfl (lv_at hl 3 rfl) ?_
  refine lv_iconst (v := 2) hx hb dL_law_487 (by decide) ?_
  refine lv_iadd hx hb dL_law_488 ?_
  refine va_sld hx hb hX hbl hbA hS (sc_in (k := 2) hi hL (by decide)) dL_law_489 ?_
  refine lv_aload_n hx hb dL_law_490 rfl (lv_at hl 0 rfl) ?_
  refine lv_iload_n hx hb dL_law_491 rfl (lv_at hl 3 rfl) ?_
  refine lv_iconst (v := 3) hx hb dL_law_492 (by decide) ?_
  refine lv_iadd hx hb dL_law_493 ?_
  refine va_sld hx hb hX hbl hbA hS (sc_in (k := 3) hi hL (by decide)) dL_law_494 ?_
  refine lv_aload_n hx hb dL_law_495 rfl (lv_at hl 0 rfl) ?_
  refine lv_iload_n hx hb dL_law_496 rfl (lv_at hl 3 rfl) ?_
  refine lv_iconst (v := 4) hx hb dL_law_497 (by decide) ?_
  refine lv_iadd hx hb dL_law_498 ?_
  refine va_sld hx hb hX hbl hbA hS (sc_in (k := 4) hi hL (by decide)) dL_law_499 ?_
  refine lv_aload_n hx hb dL_law_500 rfl (lv_at hl 0 rfl) ?_
  refine lv_iload_n hx hb dL_law_501 rfl (lv_at hl 3 rfl) ?_
  refine lv_iconst (v := 5) hx hb dL_law_502 (by decide) ?_
  refine lv_iadd hx hb dL_law_503 ?_
  refine va_sld hx hb hX hbl hbA hS (sc_in (k := 5) hi hL (by decide)) dL_law_504 ?_
  refine x_ci1 (rest := [.int r0]) (x_runV C hE hP hS ykX12_put lkL_53 sh132 rfl (c_X12_put hq) (by decide) rfl hl.1 (Nat.le_of_ble_eq_true rfl) dL_law_505) hS (fun r1 M1 H locs hq hP hS => ?_)
  refine lv_icmp_eq (tgt := 1339) hx hb dL_law_508 (by decide) (fun hc => ?_) (fun hc => absurd hq.1.symm hc)
  exact hn _ _ H locs ls hq.2 hP hS (lv_sub hl [0, 1, 2, 3] rfl)
set_option maxRecDepth 100000 in
set_option maxHeartbeats 4000000 in
theorem law_c9 (C : CallFix p m c cL_law 4 s #[Value.ref b] TB RL) (hE : EnvOK G s) (hX : va_X b L xs s s.heap) (hbl : b < s.heap.size) (hbA : ¬ Aw G b) {i : Nat} (hi : i + 6 ≤ L) (hL : L ≤ 3072) (hst : ST_fit Inv) (hn : LN p l e s m below meth c G b i Inv 1339) : LN p l e s m below meth c G b i Inv 513 := by
  intro M h H locs ls hinv hP hS hl
  have hx := C.1
  have hb := C.2.1
  refine lv_aload_n hx hb dL_law_513 rfl (lv_at hl 1 rfl) ?_
  refine lv_aload_n hx hb dL_law_514 rfl (lv_at hl 0 rfl) ?_
  refine lv_iload_n hx hb dL_law_515 rfl (lv_at hl 3 rfl) ?_
  refine lv_iconst (v := 1) hx hb dL_law_516 (by decide) ?_
  refine lv_iadd hx hb dL_law_517 ?_
  refine va_sld hx hb hX hbl hbA hS (sc_in (k := 1) hi hL (by decide)) dL_law_518 ?_
  refine lv_aload_n hx hb dL_law_519 rfl (lv_at hl 0 rfl) ?_
  refine lv_iload_n hx hb dL_law_520 rfl (lv_at hl 3 rfl) ?_
  refine lv_iconst (v := 2) hx hb dL_law_521 (by decide) ?_
  refine lv_iadd hx hb dL_law_522 ?_
  refine va_sld hx hb hX hbl hbA hS (sc_in (k := 2) hi hL (by decide)) dL_law_523 ?_
  refine lv_aload_n hx hb dL_law_524 rfl (lv_at hl 0 rfl) ?_
  refine lv_iload_n hx hb dL_law_525 rfl (lv_at hl 3 rfl) ?_
  refine lv_iconst (v := 3) hx hb dL_law_526 (by decide) ?_
  refine lv_iadd hx hb dL_law_527 ?_
  refine va_sld hx hb hX hbl hbA hS (sc_in (k := 3) hi hL (by decide)) dL_law_528 ?_
  refine x_ci1 (rest := []) (x_runV C hE hP hS ykX11_fit lkL_54 sh0 rfl (c_X11_fit (hst _ _ _ _ hinv)) (by decide) rfl hl.1 (Nat.le_of_ble_eq_true rfl) dL_law_529) hS (fun r0 M0 H locs hq hP hS => ?_)
  refine lv_aload_n hx hb dL_law_532 rfl (lv_at hl 2 rfl) ?_
  refine lv_aload_n hx hb dL_law_533 rfl (lv_at hl 0 rfl) ?_
  refine lv_iload_n hx hb dL_law_534 rfl (lv_at hl 3 rfl) ?_
  refine lv_iconst (v := 1) hx hb dL_law_535 (by decide) ?_
  refine lv_iadd hx hb dL_law_536 ?_
  refine va_sld hx hb hX hbl hbA hS (sc_in (k := 1) hi hL (by decide)) dL_law_537 ?_
  refine lv_aload_n hx hb dL_law_538 rfl (lv_at hl 0 rfl) ?_
  refine lv_iload_n hx hb dL_law_539 rfl (lv_at hl 3 rfl) ?_
  refine lv_iconst (v := 2) hx hb dL_law_540 (by decide) ?_
  refine lv_iadd hx hb dL_law_541 ?_
  refine va_sld hx hb hX hbl hbA hS (sc_in (k := 2) hi hL (by decide)) dL_law_542 ?_
  refine lv_aload_n hx hb dL_law_543 rfl (lv_at hl 0 rfl) ?_
  refine lv_iload_n hx hb dL_law_544 rfl (lv_at hl 3 rfl) ?_
  refine lv_iconst (v := 3) hx hb dL_law_545 (by decide) ?_
  refine lv_iadd hx hb dL_law_546 ?_
  refine va_sld hx hb hX hbl hbA hS (sc_in (k := 3) hi hL (by decide)) dL_law_547 ?_
  refine x_ci1 (rest := [.int r0]) (x_runV C hE hP hS ykX12_fit lkL_57 sh132 rfl (c_X12_fit hq) (by decide) rfl hl.1 (Nat.le_of_ble_eq_true rfl) dL_law_548) hS (fun r1 M1 H locs hq hP hS => ?_)
  refine lv_icmp_eq (tgt := 1339) hx hb dL_law_551 (by decide) (fun hc => ?_) (fun hc => absurd hq.1.symm hc)
  exact hn _ _ H locs ls hq.2 hP hS (lv_sub hl [0, 1, 2, 3] rfl)
set_option maxRecDepth 100000 in
set_option maxHeartbeats 4000000 in
theorem law_c10 (C : CallFix p m c cL_law 4 s #[Value.ref b] TB RL) (hE : EnvOK G s) (hX : va_X b L xs s s.heap) (hbl : b < s.heap.size) (hbA : ¬ Aw G b) {i : Nat} (hi : i + 6 ≤ L) (hL : L ≤ 3072) (hst : ST_chance Inv) (hn : LN p l e s m below meth c G b i Inv 1339) : LN p l e s m below meth c G b i Inv 556 := by
  intro M h H locs ls hinv hP hS hl
  have hx := C.1
  have hb := C.2.1
  refine lv_aload_n hx hb dL_law_556 rfl (lv_at hl 1 rfl) ?_
  refine lv_aload_n hx hb dL_law_557 rfl (lv_at hl 0 rfl) ?_
  refine lv_iload_n hx hb dL_law_558 rfl (lv_at hl 3 rfl) ?_
  refine lv_iconst (v := 1) hx hb dL_law_559 (by decide) ?_
  refine lv_iadd hx hb dL_law_560 ?_
  refine va_sld hx hb hX hbl hbA hS (sc_in (k := 1) hi hL (by decide)) dL_law_561 ?_
  refine lv_aload_n hx hb dL_law_562 rfl (lv_at hl 0 rfl) ?_
  refine lv_iload_n hx hb dL_law_563 rfl (lv_at hl 3 rfl) ?_
  refine lv_iconst (v := 2) hx hb dL_law_564 (by decide) ?_
  refine lv_iadd hx hb dL_law_565 ?_
  refine va_sld hx hb hX hbl hbA hS (sc_in (k := 2) hi hL (by decide)) dL_law_566 ?_
  refine lv_aload_n hx hb dL_law_567 rfl (lv_at hl 0 rfl) ?_
  refine lv_iload_n hx hb dL_law_568 rfl (lv_at hl 3 rfl) ?_
  refine lv_iconst (v := 3) hx hb dL_law_569 (by decide) ?_
  refine lv_iadd hx hb dL_law_570 ?_
  refine va_sld hx hb hX hbl hbA hS (sc_in (k := 3) hi hL (by decide)) dL_law_571 ?_
  refine lv_aload_n hx hb dL_law_572 rfl (lv_at hl 0 rfl) ?_
  refine lv_iload_n hx hb dL_law_573 rfl (lv_at hl 3 rfl) ?_
  refine lv_iconst (v := 4) hx hb dL_law_574 (by decide) ?_
  refine lv_iadd hx hb dL_law_575 ?_
  refine va_sld hx hb hX hbl hbA hS (sc_in (k := 4) hi hL (by decide)) dL_law_576 ?_
  refine lv_aload_n hx hb dL_law_577 rfl (lv_at hl 0 rfl) ?_
  refine lv_iload_n hx hb dL_law_578 rfl (lv_at hl 3 rfl) ?_
  refine lv_iconst (v := 5) hx hb dL_law_579 (by decide) ?_
  refine lv_iadd hx hb dL_law_580 ?_
  refine va_sld hx hb hX hbl hbA hS (sc_in (k := 5) hi hL (by decide)) dL_law_581 ?_
  refine x_ci1 (rest := []) (x_runV C hE hP hS ykX11_chance lkL_58 sh0 rfl (c_X11_chance (hst _ _ _ _ _ _ hinv)) (by decide) rfl hl.1 (Nat.le_of_ble_eq_true rfl) dL_law_582) hS (fun r0 M0 H locs hq hP hS => ?_)
  refine lv_aload_n hx hb dL_law_585 rfl (lv_at hl 2 rfl) ?_
  refine lv_aload_n hx hb dL_law_586 rfl (lv_at hl 0 rfl) ?_
  refine lv_iload_n hx hb dL_law_587 rfl (lv_at hl 3 rfl) ?_
  refine lv_iconst (v := 1) hx hb dL_law_588 (by decide) ?_
  refine lv_iadd hx hb dL_law_589 ?_
  refine va_sld hx hb hX hbl hbA hS (sc_in (k := 1) hi hL (by decide)) dL_law_590 ?_
  refine lv_aload_n hx hb dL_law_591 rfl (lv_at hl 0 rfl) ?_
  refine lv_iload_n hx hb dL_law_592 rfl (lv_at hl 3 rfl) ?_
  refine lv_iconst (v := 2) hx hb dL_law_593 (by decide) ?_
  refine lv_iadd hx hb dL_law_594 ?_
  refine va_sld hx hb hX hbl hbA hS (sc_in (k := 2) hi hL (by decide)) dL_law_595 ?_
  refine lv_aload_n hx hb dL_law_596 rfl (lv_at hl 0 rfl) ?_
  refine lv_iload_n hx hb dL_law_597 rfl (lv_at hl 3 rfl) ?_
  refine lv_iconst (v := 3) hx hb dL_law_598 (by decide) ?_
  refine lv_iadd hx hb dL_law_599 ?_
  refine va_sld hx hb hX hbl hbA hS (sc_in (k := 3) hi hL (by decide)) dL_law_600 ?_
  refine lv_aload_n hx hb dL_law_601 rfl (lv_at hl 0 rfl) ?_
  refine lv_iload_n hx hb dL_law_602 rfl (lv_at hl 3 rfl) ?_
  refine lv_iconst (v := 4) hx hb dL_law_603 (by decide) ?_
  refine lv_iadd hx hb dL_law_604 ?_
  refine va_sld hx hb hX hbl hbA hS (sc_in (k := 4) hi hL (by decide)) dL_law_605 ?_
  refine lv_aload_n hx hb dL_law_606 rfl (lv_at hl 0 rfl) ?_
  refine lv_iload_n hx hb dL_law_607 rfl (lv_at hl 3 rfl) ?_
  refine lv_iconst (v := 5) hx hb dL_law_608 (by decide) ?_
  refine lv_iadd hx hb dL_law_609 ?_
  refine va_sld hx hb hX hbl hbA hS (sc_in (k := 5) hi hL (by decide)) dL_law_610 ?_
  refine x_ci1 (rest := [.int r0]) (x_runV C hE hP hS ykX12_chance lkL_61 sh132 rfl (c_X12_chance hq) (by decide) rfl hl.1 (Nat.le_of_ble_eq_true rfl) dL_law_611) hS (fun r1 M1 H locs hq hP hS => ?_)
  refine lv_icmp_eq (tgt := 1339) hx hb dL_law_614 (by decide) (fun hc => ?_) (fun hc => absurd hq.1.symm hc)
  exact hn _ _ H locs ls hq.2 hP hS (lv_sub hl [0, 1, 2, 3] rfl)
set_option maxRecDepth 100000 in
set_option maxHeartbeats 4000000 in
theorem law_c11 (C : CallFix p m c cL_law 4 s #[Value.ref b] TB RL) (hE : EnvOK G s) (hX : va_X b L xs s s.heap) (hbl : b < s.heap.size) (hbA : ¬ Aw G b) {i : Nat} (hi : i + 6 ≤ L) (hL : L ≤ 3072) (hst : ST_beside Inv) (hn : LN p l e s m below meth c G b i Inv 1339) : LN p l e s m below meth c G b i Inv 619 := by
  intro M h H locs ls hinv hP hS hl
  have hx := C.1
  have hb := C.2.1
  refine lv_aload_n hx hb dL_law_619 rfl (lv_at hl 1 rfl) ?_
  refine lv_aload_n hx hb dL_law_620 rfl (lv_at hl 0 rfl) ?_
  refine lv_iload_n hx hb dL_law_621 rfl (lv_at hl 3 rfl) ?_
  refine lv_iconst (v := 1) hx hb dL_law_622 (by decide) ?_
  refine lv_iadd hx hb dL_law_623 ?_
  refine va_sld hx hb hX hbl hbA hS (sc_in (k := 1) hi hL (by decide)) dL_law_624 ?_
  refine lv_aload_n hx hb dL_law_625 rfl (lv_at hl 0 rfl) ?_
  refine lv_iload_n hx hb dL_law_626 rfl (lv_at hl 3 rfl) ?_
  refine lv_iconst (v := 2) hx hb dL_law_627 (by decide) ?_
  refine lv_iadd hx hb dL_law_628 ?_
  refine va_sld hx hb hX hbl hbA hS (sc_in (k := 2) hi hL (by decide)) dL_law_629 ?_
  refine lv_aload_n hx hb dL_law_630 rfl (lv_at hl 0 rfl) ?_
  refine lv_iload_n hx hb dL_law_631 rfl (lv_at hl 3 rfl) ?_
  refine lv_iconst (v := 3) hx hb dL_law_632 (by decide) ?_
  refine lv_iadd hx hb dL_law_633 ?_
  refine va_sld hx hb hX hbl hbA hS (sc_in (k := 3) hi hL (by decide)) dL_law_634 ?_
  refine lv_aload_n hx hb dL_law_635 rfl (lv_at hl 0 rfl) ?_
  refine lv_iload_n hx hb dL_law_636 rfl (lv_at hl 3 rfl) ?_
  refine lv_iconst (v := 4) hx hb dL_law_637 (by decide) ?_
  refine lv_iadd hx hb dL_law_638 ?_
  refine va_sld hx hb hX hbl hbA hS (sc_in (k := 4) hi hL (by decide)) dL_law_639 ?_
  refine x_ci0 (rest := []) (x_runV C hE hP hS ykX11_beside lkL_62 sh0 rfl (c_X11_beside (hst _ _ _ _ _ hinv)) (by decide) rfl hl.1 (Nat.le_of_ble_eq_true rfl) dL_law_640) hS (fun r0 H locs hq hP hS => ?_)
  refine lv_aload_n hx hb dL_law_643 rfl (lv_at hl 2 rfl) ?_
  refine lv_aload_n hx hb dL_law_644 rfl (lv_at hl 0 rfl) ?_
  refine lv_iload_n hx hb dL_law_645 rfl (lv_at hl 3 rfl) ?_
  refine lv_iconst (v := 1) hx hb dL_law_646 (by decide) ?_
  refine lv_iadd hx hb dL_law_647 ?_
  refine va_sld hx hb hX hbl hbA hS (sc_in (k := 1) hi hL (by decide)) dL_law_648 ?_
  refine lv_aload_n hx hb dL_law_649 rfl (lv_at hl 0 rfl) ?_
  refine lv_iload_n hx hb dL_law_650 rfl (lv_at hl 3 rfl) ?_
  refine lv_iconst (v := 2) hx hb dL_law_651 (by decide) ?_
  refine lv_iadd hx hb dL_law_652 ?_
  refine va_sld hx hb hX hbl hbA hS (sc_in (k := 2) hi hL (by decide)) dL_law_653 ?_
  refine lv_aload_n hx hb dL_law_654 rfl (lv_at hl 0 rfl) ?_
  refine lv_iload_n hx hb dL_law_655 rfl (lv_at hl 3 rfl) ?_
  refine lv_iconst (v := 3) hx hb dL_law_656 (by decide) ?_
  refine lv_iadd hx hb dL_law_657 ?_
  refine va_sld hx hb hX hbl hbA hS (sc_in (k := 3) hi hL (by decide)) dL_law_658 ?_
  refine lv_aload_n hx hb dL_law_659 rfl (lv_at hl 0 rfl) ?_
  refine lv_iload_n hx hb dL_law_660 rfl (lv_at hl 3 rfl) ?_
  refine lv_iconst (v := 4) hx hb dL_law_661 (by decide) ?_
  refine lv_iadd hx hb dL_law_662 ?_
  refine va_sld hx hb hX hbl hbA hS (sc_in (k := 4) hi hL (by decide)) dL_law_663 ?_
  refine x_ci1 (rest := [.int r0]) (x_runV C hE hP hS ykX12_beside lkL_65 sh132 rfl (c_X12_beside hq) (by decide) rfl hl.1 (Nat.le_of_ble_eq_true rfl) dL_law_664) hS (fun r1 M1 H locs hq hP hS => ?_)
  refine lv_icmp_eq (tgt := 1339) hx hb dL_law_667 (by decide) (fun hc => ?_) (fun hc => absurd hq.1.symm hc)
  exact hn _ _ H locs ls hq.2 hP hS (lv_sub hl [0, 1, 2, 3] rfl)
set_option maxRecDepth 100000 in
set_option maxHeartbeats 4000000 in
theorem law_c12 (C : CallFix p m c cL_law 4 s #[Value.ref b] TB RL) (hE : EnvOK G s) (hX : va_X b L xs s s.heap) (hbl : b < s.heap.size) (hbA : ¬ Aw G b) {i : Nat} (hi : i + 6 ≤ L) (hL : L ≤ 3072) (hst : ST_letters Inv) (hn : LN p l e s m below meth c G b i Inv 1339) : LN p l e s m below meth c G b i Inv 672 := by
  intro M h H locs ls hinv hP hS hl
  have hx := C.1
  have hb := C.2.1
  refine lv_aload_n hx hb dL_law_672 rfl (lv_at hl 1 rfl) ?_
  refine lv_aload_n hx hb dL_law_673 rfl (lv_at hl 0 rfl) ?_
  refine lv_iload_n hx hb dL_law_674 rfl (lv_at hl 3 rfl) ?_
  refine lv_iconst (v := 1) hx hb dL_law_675 (by decide) ?_
  refine lv_iadd hx hb dL_law_676 ?_
  refine va_sld hx hb hX hbl hbA hS (sc_in (k := 1) hi hL (by decide)) dL_law_677 ?_
  refine lv_i2l hx hb dL_law_678 rfl ?_
  refine lv_bipush (v := 32) hx hb dL_law_679 (by decide) ?_
  refine x_lshl C dL_law_681 ?_
  refine lv_aload_n hx hb dL_law_682 rfl (lv_at hl 0 rfl) ?_
  refine lv_iload_n hx hb dL_law_683 rfl (lv_at hl 3 rfl) ?_
  refine lv_iconst (v := 2) hx hb dL_law_684 (by decide) ?_
  refine lv_iadd hx hb dL_law_685 ?_
  refine va_sld hx hb hX hbl hbA hS (sc_in (k := 2) hi hL (by decide)) dL_law_686 ?_
  refine lv_i2l hx hb dL_law_687 rfl ?_
  refine lv_ldc2 hx hb C.2.2.2.1 (C.2.2.2.2 _ ckL_66) dL_law_688 ?_
  refine lv_land hx hb dL_law_691 ?_
  refine lv_lor hx hb dL_law_692 ?_
  refine x_ci1 (rest := []) (x_runV C hE hP hS ykX11_letters lkL_68 sh0 rfl (c_X11_letters (hst _ _ hinv)) (by decide) rfl hl.1 (Nat.le_of_ble_eq_true rfl) dL_law_693) hS (fun r0 M0 H locs hq hP hS => ?_)
  refine lv_aload_n hx hb dL_law_696 rfl (lv_at hl 2 rfl) ?_
  refine lv_aload_n hx hb dL_law_697 rfl (lv_at hl 0 rfl) ?_
  refine lv_iload_n hx hb dL_law_698 rfl (lv_at hl 3 rfl) ?_
  refine lv_iconst (v := 1) hx hb dL_law_699 (by decide) ?_
  refine lv_iadd hx hb dL_law_700 ?_
  refine va_sld hx hb hX hbl hbA hS (sc_in (k := 1) hi hL (by decide)) dL_law_701 ?_
  refine lv_i2l hx hb dL_law_702 rfl ?_
  refine lv_bipush (v := 32) hx hb dL_law_703 (by decide) ?_
  refine x_lshl C dL_law_705 ?_
  refine lv_aload_n hx hb dL_law_706 rfl (lv_at hl 0 rfl) ?_
  refine lv_iload_n hx hb dL_law_707 rfl (lv_at hl 3 rfl) ?_
  refine lv_iconst (v := 2) hx hb dL_law_708 (by decide) ?_
  refine lv_iadd hx hb dL_law_709 ?_
  refine va_sld hx hb hX hbl hbA hS (sc_in (k := 2) hi hL (by decide)) dL_law_710 ?_
  refine lv_i2l hx hb dL_law_711 rfl ?_
  refine lv_ldc2 hx hb C.2.2.2.1 (C.2.2.2.2 _ ckL_66) dL_law_712 ?_
  refine lv_land hx hb dL_law_715 ?_
  refine lv_lor hx hb dL_law_716 ?_
  refine x_ci1 (rest := [.int r0]) (x_runV C hE hP hS ykX12_letters lkL_72 sh132 rfl (c_X12_letters hq) (by decide) rfl hl.1 (Nat.le_of_ble_eq_true rfl) dL_law_717) hS (fun r1 M1 H locs hq hP hS => ?_)
  refine lv_icmp_eq (tgt := 1339) hx hb dL_law_720 (by decide) (fun hc => ?_) (fun hc => absurd hq.1.symm hc)
  exact hn _ _ H locs ls hq.2 hP hS (lv_sub hl [0, 1, 2, 3] rfl)
set_option maxRecDepth 100000 in
set_option maxHeartbeats 4000000 in
theorem law_c13 (C : CallFix p m c cL_law 4 s #[Value.ref b] TB RL) (hE : EnvOK G s) (hX : va_X b L xs s s.heap) (hbl : b < s.heap.size) (hbA : ¬ Aw G b) {i : Nat} (hi : i + 6 ≤ L) (hL : L ≤ 3072) (hst : ST_blank Inv) (hn : LN p l e s m below meth c G b i Inv 1339) : LN p l e s m below meth c G b i Inv 725 := by
  intro M h H locs ls hinv hP hS hl
  have hx := C.1
  have hb := C.2.1
  refine lv_aload_n hx hb dL_law_725 rfl (lv_at hl 1 rfl) ?_
  refine x_ci1 (rest := []) (x_runV C hE hP hS ykX11_blank lkL_73 sh0 rfl (c_X11_blank (hst  _ hinv)) (by decide) rfl hl.1 (Nat.le_of_ble_eq_true rfl) dL_law_726) hS (fun r0 M0 H locs hq hP hS => ?_)
  refine lv_aload_n hx hb dL_law_729 rfl (lv_at hl 2 rfl) ?_
  refine x_ci1 (rest := [.int r0]) (x_runV C hE hP hS ykX12_blank lkL_76 sh132 rfl (c_X12_blank hq) (by decide) rfl hl.1 (Nat.le_of_ble_eq_true rfl) dL_law_730) hS (fun r1 M1 H locs hq hP hS => ?_)
  refine lv_icmp_eq (tgt := 1339) hx hb dL_law_733 (by decide) (fun hc => ?_) (fun hc => absurd hq.1.symm hc)
  exact hn _ _ H locs ls hq.2 hP hS (lv_sub hl [0, 1, 2, 3] rfl)
set_option maxRecDepth 100000 in
set_option maxHeartbeats 4000000 in
theorem law_c14 (C : CallFix p m c cL_law 4 s #[Value.ref b] TB RL) (hE : EnvOK G s) (hX : va_X b L xs s s.heap) (hbl : b < s.heap.size) (hbA : ¬ Aw G b) {i : Nat} (hi : i + 6 ≤ L) (hL : L ≤ 3072) (hst : ST_fault Inv) (hn : LN p l e s m below meth c G b i Inv 1339) : LN p l e s m below meth c G b i Inv 738 := by
  intro M h H locs ls hinv hP hS hl
  have hx := C.1
  have hb := C.2.1
  refine lv_aload_n hx hb dL_law_738 rfl (lv_at hl 1 rfl) ?_
  refine x_ci0 (rest := []) (x_runV C hE hP hS ykX11_fault lkL_77 sh0 rfl (c_X11_fault (hst  _ hinv)) (by decide) rfl hl.1 (Nat.le_of_ble_eq_true rfl) dL_law_739) hS (fun r0 H locs hq hP hS => ?_)
  refine lv_aload_n hx hb dL_law_742 rfl (lv_at hl 2 rfl) ?_
  refine x_ci1 (rest := [.int r0]) (x_runV C hE hP hS ykX12_fault lkL_80 sh132 rfl (c_X12_fault hq) (by decide) rfl hl.1 (Nat.le_of_ble_eq_true rfl) dL_law_743) hS (fun r1 M1 H locs hq hP hS => ?_)
  refine lv_icmp_eq (tgt := 1339) hx hb dL_law_746 (by decide) (fun hc => ?_) (fun hc => absurd hq.1.symm hc)
  exact hn _ _ H locs ls hq.2 hP hS (lv_sub hl [0, 1, 2, 3] rfl)
set_option maxRecDepth 100000 in
set_option maxHeartbeats 4000000 in
theorem law_c15 (C : CallFix p m c cL_law 4 s #[Value.ref b] TB RL) (hE : EnvOK G s) (hX : va_X b L xs s s.heap) (hbl : b < s.heap.size) (hbA : ¬ Aw G b) {i : Nat} (hi : i + 6 ≤ L) (hL : L ≤ 3072) (hst : ST_law Inv) (hn : LN p l e s m below meth c G b i Inv 1339) : LN p l e s m below meth c G b i Inv 751 := by
  intro M h H locs ls hinv hP hS hl
  have hx := C.1
  have hb := C.2.1
  refine lv_aload_n hx hb dL_law_751 rfl (lv_at hl 1 rfl) ?_
  refine lv_aload_n hx hb dL_law_752 rfl (lv_at hl 0 rfl) ?_
  refine lv_iload_n hx hb dL_law_753 rfl (lv_at hl 3 rfl) ?_
  refine lv_iconst (v := 1) hx hb dL_law_754 (by decide) ?_
  refine lv_iadd hx hb dL_law_755 ?_
  refine va_sld hx hb hX hbl hbA hS (sc_in (k := 1) hi hL (by decide)) dL_law_756 ?_
  refine x_ci1 (rest := []) (x_runV C hE hP hS ykX11_law lkL_81 sh0 rfl (c_X11_law (hst _ _ hinv)) (by decide) rfl hl.1 (Nat.le_of_ble_eq_true rfl) dL_law_757) hS (fun r0 M0 H locs hq hP hS => ?_)
  refine lv_aload_n hx hb dL_law_760 rfl (lv_at hl 2 rfl) ?_
  refine lv_aload_n hx hb dL_law_761 rfl (lv_at hl 0 rfl) ?_
  refine lv_iload_n hx hb dL_law_762 rfl (lv_at hl 3 rfl) ?_
  refine lv_iconst (v := 1) hx hb dL_law_763 (by decide) ?_
  refine lv_iadd hx hb dL_law_764 ?_
  refine va_sld hx hb hX hbl hbA hS (sc_in (k := 1) hi hL (by decide)) dL_law_765 ?_
  refine x_ci1 (rest := [.int r0]) (x_runV C hE hP hS ykX12_law lkL_85 sh132 rfl (c_X12_law hq) (by decide) rfl hl.1 (Nat.le_of_ble_eq_true rfl) dL_law_766) hS (fun r1 M1 H locs hq hP hS => ?_)
  refine lv_icmp_eq (tgt := 1339) hx hb dL_law_769 (by decide) (fun hc => ?_) (fun hc => absurd hq.1.symm hc)
  exact hn _ _ H locs ls hq.2 hP hS (lv_sub hl [0, 1, 2, 3] rfl)
set_option maxRecDepth 100000 in
set_option maxHeartbeats 4000000 in
theorem law_c16 (C : CallFix p m c cL_law 4 s #[Value.ref b] TB RL) (hE : EnvOK G s) (hX : va_X b L xs s s.heap) (hbl : b < s.heap.size) (hbA : ¬ Aw G b) {i : Nat} (hi : i + 6 ≤ L) (hL : L ≤ 3072) (hst : ST_strike Inv) (hn : LN p l e s m below meth c G b i Inv 1339) : LN p l e s m below meth c G b i Inv 774 := by
  intro M h H locs ls hinv hP hS hl
  have hx := C.1
  have hb := C.2.1
  refine lv_aload_n hx hb dL_law_774 rfl (lv_at hl 1 rfl) ?_
  refine lv_aload_n hx hb dL_law_775 rfl (lv_at hl 0 rfl) ?_
  refine lv_iload_n hx hb dL_law_776 rfl (lv_at hl 3 rfl) ?_
  refine lv_iconst (v := 1) hx hb dL_law_777 (by decide) ?_
  refine lv_iadd hx hb dL_law_778 ?_
  refine va_sld hx hb hX hbl hbA hS (sc_in (k := 1) hi hL (by decide)) dL_law_779 ?_
  refine x_ci1 (rest := []) (x_runV C hE hP hS ykX11_strike lkL_86 sh0 rfl (c_X11_strike (hst _ _ hinv)) (by decide) rfl hl.1 (Nat.le_of_ble_eq_true rfl) dL_law_780) hS (fun r0 M0 H locs hq hP hS => ?_)
  refine lv_aload_n hx hb dL_law_783 rfl (lv_at hl 2 rfl) ?_
  refine lv_aload_n hx hb dL_law_784 rfl (lv_at hl 0 rfl) ?_
  refine lv_iload_n hx hb dL_law_785 rfl (lv_at hl 3 rfl) ?_
  refine lv_iconst (v := 1) hx hb dL_law_786 (by decide) ?_
  refine lv_iadd hx hb dL_law_787 ?_
  refine va_sld hx hb hX hbl hbA hS (sc_in (k := 1) hi hL (by decide)) dL_law_788 ?_
  refine x_ci1 (rest := [.int r0]) (x_runV C hE hP hS ykX12_strike lkL_89 sh132 rfl (c_X12_strike hq) (by decide) rfl hl.1 (Nat.le_of_ble_eq_true rfl) dL_law_789) hS (fun r1 M1 H locs hq hP hS => ?_)
  refine lv_icmp_eq (tgt := 1339) hx hb dL_law_792 (by decide) (fun hc => ?_) (fun hc => absurd hq.1.symm hc)
  exact hn _ _ H locs ls hq.2 hP hS (lv_sub hl [0, 1, 2, 3] rfl)
set_option maxRecDepth 100000 in
set_option maxHeartbeats 4000000 in
theorem law_c17 (C : CallFix p m c cL_law 4 s #[Value.ref b] TB RL) (hE : EnvOK G s) (hX : va_X b L xs s s.heap) (hbl : b < s.heap.size) (hbA : ¬ Aw G b) {i : Nat} (hi : i + 6 ≤ L) (hL : L ≤ 3072) (hst : ST_distance Inv) (hn : LN p l e s m below meth c G b i Inv 1339) : LN p l e s m below meth c G b i Inv 797 := by
  intro M h H locs ls hinv hP hS hl
  have hx := C.1
  have hb := C.2.1
  refine lv_aload_n hx hb dL_law_797 rfl (lv_at hl 1 rfl) ?_
  refine lv_aload_n hx hb dL_law_798 rfl (lv_at hl 0 rfl) ?_
  refine lv_iload_n hx hb dL_law_799 rfl (lv_at hl 3 rfl) ?_
  refine lv_iconst (v := 1) hx hb dL_law_800 (by decide) ?_
  refine lv_iadd hx hb dL_law_801 ?_
  refine va_sld hx hb hX hbl hbA hS (sc_in (k := 1) hi hL (by decide)) dL_law_802 ?_
  refine lv_aload_n hx hb dL_law_803 rfl (lv_at hl 0 rfl) ?_
  refine lv_iload_n hx hb dL_law_804 rfl (lv_at hl 3 rfl) ?_
  refine lv_iconst (v := 2) hx hb dL_law_805 (by decide) ?_
  refine lv_iadd hx hb dL_law_806 ?_
  refine va_sld hx hb hX hbl hbA hS (sc_in (k := 2) hi hL (by decide)) dL_law_807 ?_
  refine x_ci1 (rest := []) (x_runV C hE hP hS ykX11_distance lkL_90 sh0 rfl (c_X11_distance (hst _ _ _ hinv)) (by decide) rfl hl.1 (Nat.le_of_ble_eq_true rfl) dL_law_808) hS (fun r0 M0 H locs hq hP hS => ?_)
  refine lv_aload_n hx hb dL_law_811 rfl (lv_at hl 2 rfl) ?_
  refine lv_aload_n hx hb dL_law_812 rfl (lv_at hl 0 rfl) ?_
  refine lv_iload_n hx hb dL_law_813 rfl (lv_at hl 3 rfl) ?_
  refine lv_iconst (v := 1) hx hb dL_law_814 (by decide) ?_
  refine lv_iadd hx hb dL_law_815 ?_
  refine va_sld hx hb hX hbl hbA hS (sc_in (k := 1) hi hL (by decide)) dL_law_816 ?_
  refine lv_aload_n hx hb dL_law_817 rfl (lv_at hl 0 rfl) ?_
  refine lv_iload_n hx hb dL_law_818 rfl (lv_at hl 3 rfl) ?_
  refine lv_iconst (v := 2) hx hb dL_law_819 (by decide) ?_
  refine lv_iadd hx hb dL_law_820 ?_
  refine va_sld hx hb hX hbl hbA hS (sc_in (k := 2) hi hL (by decide)) dL_law_821 ?_
  refine x_ci0 (rest := [.int r0]) (x_runV C hE hP hS ykX12_distance lkL_93 sh132 rfl (c_X12_distance hq) (by decide) rfl hl.1 (Nat.le_of_ble_eq_true rfl) dL_law_822) hS (fun r1 H locs hq hP hS => ?_)
  refine lv_icmp_eq (tgt := 1339) hx hb dL_law_825 (by decide) (fun hc => ?_) (fun hc => absurd hq.1.symm hc)
  exact hn _ _ H locs ls hq.2 hP hS (lv_sub hl [0, 1, 2, 3] rfl)
set_option maxRecDepth 100000 in
set_option maxHeartbeats 4000000 in
theorem law_c18 (C : CallFix p m c cL_law 4 s #[Value.ref b] TB RL) (hE : EnvOK G s) (hX : va_X b L xs s s.heap) (hbl : b < s.heap.size) (hbA : ¬ Aw G b) {i : Nat} (hi : i + 6 ≤ L) (hL : L ≤ 3072) (hst : ST_beast Inv) (hn : LN p l e s m below meth c G b i Inv 1339) : LN p l e s m below meth c G b i Inv 830 := by
  intro M h H locs ls hinv hP hS hl
  have hx := C.1
  have hb := C.2.1
  refine lv_aload_n hx hb dL_law_830 rfl (lv_at hl 1 rfl) ?_
  refine lv_aload_n hx hb dL_law_831 rfl (lv_at hl 0 rfl) ?_
  refine lv_iload_n hx hb dL_law_832 rfl (lv_at hl 3 rfl) ?_
  refine lv_iconst (v := 1) hx hb dL_law_833 (by decide) ?_
  refine lv_iadd hx hb dL_law_834 ?_
  refine va_sld hx hb hX hbl hbA hS (sc_in (k := 1) hi hL (by decide)) dL_law_835 ?_
  refine lv_aload_n hx hb dL_law_836 rfl (lv_at hl 0 rfl) ?_
  refine lv_iload_n hx hb dL_law_837 rfl (lv_at hl 3 rfl) ?_
  refine lv_iconst (v := 2) hx hb dL_law_838 (by decide) ?_
  refine lv_iadd hx hb dL_law_839 ?_
  refine va_sld hx hb hX hbl hbA hS (sc_in (k := 2) hi hL (by decide)) dL_law_840 ?_
  refine x_ci1 (rest := []) (x_runV C hE hP hS ykX11_beast lkL_94 sh0 rfl (c_X11_beast (hst _ _ _ hinv)) (by decide) rfl hl.1 (Nat.le_of_ble_eq_true rfl) dL_law_841) hS (fun r0 M0 H locs hq hP hS => ?_)
  refine lv_aload_n hx hb dL_law_844 rfl (lv_at hl 2 rfl) ?_
  refine lv_aload_n hx hb dL_law_845 rfl (lv_at hl 0 rfl) ?_
  refine lv_iload_n hx hb dL_law_846 rfl (lv_at hl 3 rfl) ?_
  refine lv_iconst (v := 1) hx hb dL_law_847 (by decide) ?_
  refine lv_iadd hx hb dL_law_848 ?_
  refine va_sld hx hb hX hbl hbA hS (sc_in (k := 1) hi hL (by decide)) dL_law_849 ?_
  refine lv_aload_n hx hb dL_law_850 rfl (lv_at hl 0 rfl) ?_
  refine lv_iload_n hx hb dL_law_851 rfl (lv_at hl 3 rfl) ?_
  refine lv_iconst (v := 2) hx hb dL_law_852 (by decide) ?_
  refine lv_iadd hx hb dL_law_853 ?_
  refine va_sld hx hb hX hbl hbA hS (sc_in (k := 2) hi hL (by decide)) dL_law_854 ?_
  refine x_ci1 (rest := [.int r0]) (x_runV C hE hP hS ykX12_beast lkL_97 sh132 rfl (c_X12_beast hq) (by decide) rfl hl.1 (Nat.le_of_ble_eq_true rfl) dL_law_855) hS (fun r1 M1 H locs hq hP hS => ?_)
  refine lv_icmp_eq (tgt := 1339) hx hb dL_law_858 (by decide) (fun hc => ?_) (fun hc => absurd hq.1.symm hc)
  exact hn _ _ H locs ls hq.2 hP hS (lv_sub hl [0, 1, 2, 3] rfl)
set_option maxRecDepth 100000 in
set_option maxHeartbeats 4000000 in
theorem law_c19 (C : CallFix p m c cL_law 4 s #[Value.ref b] TB RL) (hE : EnvOK G s) (hX : va_X b L xs s s.heap) (hbl : b < s.heap.size) (hbA : ¬ Aw G b) {i : Nat} (hi : i + 6 ≤ L) (hL : L ≤ 3072) (hst : ST_crossing Inv) (hn : LN p l e s m below meth c G b i Inv 1339) : LN p l e s m below meth c G b i Inv 863 := by
  intro M h H locs ls hinv hP hS hl
  have hx := C.1
  have hb := C.2.1
  refine lv_aload_n hx hb dL_law_863 rfl (lv_at hl 1 rfl) ?_
  refine lv_aload_n hx hb dL_law_864 rfl (lv_at hl 0 rfl) ?_
  refine lv_iload_n hx hb dL_law_865 rfl (lv_at hl 3 rfl) ?_
  refine lv_iconst (v := 1) hx hb dL_law_866 (by decide) ?_
  refine lv_iadd hx hb dL_law_867 ?_
  refine va_sld hx hb hX hbl hbA hS (sc_in (k := 1) hi hL (by decide)) dL_law_868 ?_
  refine lv_aload_n hx hb dL_law_869 rfl (lv_at hl 0 rfl) ?_
  refine lv_iload_n hx hb dL_law_870 rfl (lv_at hl 3 rfl) ?_
  refine lv_iconst (v := 2) hx hb dL_law_871 (by decide) ?_
  refine lv_iadd hx hb dL_law_872 ?_
  refine va_sld hx hb hX hbl hbA hS (sc_in (k := 2) hi hL (by decide)) dL_law_873 ?_
  refine lv_aload_n hx hb dL_law_874 rfl (lv_at hl 0 rfl) ?_
  refine lv_iload_n hx hb dL_law_875 rfl (lv_at hl 3 rfl) ?_
  refine lv_iconst (v := 3) hx hb dL_law_876 (by decide) ?_
  refine lv_iadd hx hb dL_law_877 ?_
  refine va_sld hx hb hX hbl hbA hS (sc_in (k := 3) hi hL (by decide)) dL_law_878 ?_
  refine lv_aload_n hx hb dL_law_879 rfl (lv_at hl 0 rfl) ?_
  refine lv_iload_n hx hb dL_law_880 rfl (lv_at hl 3 rfl) ?_
  refine lv_iconst (v := 4) hx hb dL_law_881 (by decide) ?_
  refine lv_iadd hx hb dL_law_882 ?_
  refine va_sld hx hb hX hbl hbA hS (sc_in (k := 4) hi hL (by decide)) dL_law_883 ?_
  refine lv_aload_n hx hb dL_law_884 rfl (lv_at hl 0 rfl) ?_
  refine lv_iload_n hx hb dL_law_885 rfl (lv_at hl 3 rfl) ?_
  refine lv_iconst (v := 5) hx hb dL_law_886 (by decide) ?_
  refine lv_iadd hx hb dL_law_887 ?_
  refine va_sld hx hb hX hbl hbA hS (sc_in (k := 5) hi hL (by decide)) dL_law_888 ?_
  refine x_ci1 (rest := []) (x_runV C hE hP hS ykX11_crossing lkL_98 sh0 rfl (c_X11_crossing (hst _ _ _ _ _ _ hinv)) (by decide) rfl hl.1 (Nat.le_of_ble_eq_true rfl) dL_law_889) hS (fun r0 M0 H locs hq hP hS => ?_)
  refine lv_aload_n hx hb dL_law_892 rfl (lv_at hl 2 rfl) ?_
  refine lv_aload_n hx hb dL_law_893 rfl (lv_at hl 0 rfl) ?_
  refine lv_iload_n hx hb dL_law_894 rfl (lv_at hl 3 rfl) ?_
  refine lv_iconst (v := 1) hx hb dL_law_895 (by decide) ?_
  refine lv_iadd hx hb dL_law_896 ?_
  refine va_sld hx hb hX hbl hbA hS (sc_in (k := 1) hi hL (by decide)) dL_law_897 ?_
  refine lv_aload_n hx hb dL_law_898 rfl (lv_at hl 0 rfl) ?_
  refine lv_iload_n hx hb dL_law_899 rfl (lv_at hl 3 rfl) ?_
  refine lv_iconst (v := 2) hx hb dL_law_900 (by decide) ?_
  refine lv_iadd hx hb dL_law_901 ?_
  refine va_sld hx hb hX hbl hbA hS (sc_in (k := 2) hi hL (by decide)) dL_law_902 ?_
  refine lv_aload_n hx hb dL_law_903 rfl (lv_at hl 0 rfl) ?_
  refine lv_iload_n hx hb dL_law_904 rfl (lv_at hl 3 rfl) ?_
  refine lv_iconst (v := 3) hx hb dL_law_905 (by decide) ?_
  refine lv_iadd hx hb dL_law_906 ?_
  refine va_sld hx hb hX hbl hbA hS (sc_in (k := 3) hi hL (by decide)) dL_law_907 ?_
  refine lv_aload_n hx hb dL_law_908 rfl (lv_at hl 0 rfl) ?_
  refine lv_iload_n hx hb dL_law_909 rfl (lv_at hl 3 rfl) ?_
  refine lv_iconst (v := 4) hx hb dL_law_910 (by decide) ?_
  refine lv_iadd hx hb dL_law_911 ?_
  refine va_sld hx hb hX hbl hbA hS (sc_in (k := 4) hi hL (by decide)) dL_law_912 ?_
  refine lv_aload_n hx hb dL_law_913 rfl (lv_at hl 0 rfl) ?_
  refine lv_iload_n hx hb dL_law_914 rfl (lv_at hl 3 rfl) ?_
  refine lv_iconst (v := 5) hx hb dL_law_915 (by decide) ?_
  refine lv_iadd hx hb dL_law_916 ?_
  refine va_sld hx hb hX hbl hbA hS (sc_in (k := 5) hi hL (by decide)) dL_law_917 ?_
  refine x_ci1 (rest := [.int r0]) (x_runV C hE hP hS ykX12_crossing lkL_101 sh132 rfl (c_X12_crossing hq) (by decide) rfl hl.1 (Nat.le_of_ble_eq_true rfl) dL_law_918) hS (fun r1 M1 H locs hq hP hS => ?_)
  refine lv_icmp_eq (tgt := 1339) hx hb dL_law_921 (by decide) (fun hc => ?_) (fun hc => absurd hq.1.symm hc)
  exact hn _ _ H locs ls hq.2 hP hS (lv_sub hl [0, 1, 2, 3] rfl)
set_option maxRecDepth 100000 in
set_option maxHeartbeats 4000000 in
theorem law_c20 (C : CallFix p m c cL_law 4 s #[Value.ref b] TB RL) (hE : EnvOK G s) (hX : va_X b L xs s s.heap) (hbl : b < s.heap.size) (hbA : ¬ Aw G b) {i : Nat} (hi : i + 6 ≤ L) (hL : L ≤ 3072) (hst : ST_spread Inv) (hn : LN p l e s m below meth c G b i Inv 1339) : LN p l e s m below meth c G b i Inv 926 := by
  intro M h H locs ls hinv hP hS hl
  have hx := C.1
  have hb := C.2.1
  refine lv_aload_n hx hb dL_law_926 rfl (lv_at hl 1 rfl) ?_
  refine lv_aload_n hx hb dL_law_927 rfl (lv_at hl 0 rfl) ?_
  refine lv_iload_n hx hb dL_law_928 rfl (lv_at hl 3 rfl) ?_
  refine lv_iconst (v := 1) hx hb dL_law_929 (by decide) ?_
  refine lv_iadd hx hb dL_law_930 ?_
  refine va_sld hx hb hX hbl hbA hS (sc_in (k := 1) hi hL (by decide)) dL_law_931 ?_
  refine lv_aload_n hx hb dL_law_932 rfl (lv_at hl 0 rfl) ?_
  refine lv_iload_n hx hb dL_law_933 rfl (lv_at hl 3 rfl) ?_
  refine lv_iconst (v := 2) hx hb dL_law_934 (by decide) ?_
  refine lv_iadd hx hb dL_law_935 ?_
  refine va_sld hx hb hX hbl hbA hS (sc_in (k := 2) hi hL (by decide)) dL_law_936 ?_
  refine lv_aload_n hx hb dL_law_937 rfl (lv_at hl 0 rfl) ?_
  refine lv_iload_n hx hb dL_law_938 rfl (lv_at hl 3 rfl) ?_
  refine lv_iconst (v := 3) hx hb dL_law_939 (by decide) ?_
  refine lv_iadd hx hb dL_law_940 ?_
  refine va_sld hx hb hX hbl hbA hS (sc_in (k := 3) hi hL (by decide)) dL_law_941 ?_
  refine x_ci1 (rest := []) (x_runV C hE hP hS ykX11_spread lkL_102 sh0 rfl (c_X11_spread (hst _ _ _ _ hinv)) (by decide) rfl hl.1 (Nat.le_of_ble_eq_true rfl) dL_law_942) hS (fun r0 M0 H locs hq hP hS => ?_)
  refine lv_aload_n hx hb dL_law_945 rfl (lv_at hl 2 rfl) ?_
  refine lv_aload_n hx hb dL_law_946 rfl (lv_at hl 0 rfl) ?_
  refine lv_iload_n hx hb dL_law_947 rfl (lv_at hl 3 rfl) ?_
  refine lv_iconst (v := 1) hx hb dL_law_948 (by decide) ?_
  refine lv_iadd hx hb dL_law_949 ?_
  refine va_sld hx hb hX hbl hbA hS (sc_in (k := 1) hi hL (by decide)) dL_law_950 ?_
  refine lv_aload_n hx hb dL_law_951 rfl (lv_at hl 0 rfl) ?_
  refine lv_iload_n hx hb dL_law_952 rfl (lv_at hl 3 rfl) ?_
  refine lv_iconst (v := 2) hx hb dL_law_953 (by decide) ?_
  refine lv_iadd hx hb dL_law_954 ?_
  refine va_sld hx hb hX hbl hbA hS (sc_in (k := 2) hi hL (by decide)) dL_law_955 ?_
  refine lv_aload_n hx hb dL_law_956 rfl (lv_at hl 0 rfl) ?_
  refine lv_iload_n hx hb dL_law_957 rfl (lv_at hl 3 rfl) ?_
  refine lv_iconst (v := 3) hx hb dL_law_958 (by decide) ?_
  refine lv_iadd hx hb dL_law_959 ?_
  refine va_sld hx hb hX hbl hbA hS (sc_in (k := 3) hi hL (by decide)) dL_law_960 ?_
  refine x_ci1 (rest := [.int r0]) (x_runV C hE hP hS ykX12_spread lkL_105 sh132 rfl (c_X12_spread hq) (by decide) rfl hl.1 (Nat.le_of_ble_eq_true rfl) dL_law_961) hS (fun r1 M1 H locs hq hP hS => ?_)
  refine lv_icmp_eq (tgt := 1339) hx hb dL_law_964 (by decide) (fun hc => ?_) (fun hc => absurd hq.1.symm hc)
  exact hn _ _ H locs ls hq.2 hP hS (lv_sub hl [0, 1, 2, 3] rfl)
set_option maxRecDepth 100000 in
set_option maxHeartbeats 4000000 in
theorem law_c21 (C : CallFix p m c cL_law 4 s #[Value.ref b] TB RL) (hE : EnvOK G s) (hX : va_X b L xs s s.heap) (hbl : b < s.heap.size) (hbA : ¬ Aw G b) {i : Nat} (hi : i + 6 ≤ L) (hL : L ≤ 3072) (hst : ST_unlike Inv) (hn : LN p l e s m below meth c G b i Inv 1339) : LN p l e s m below meth c G b i Inv 969 := by
  intro M h H locs ls hinv hP hS hl
  have hx := C.1
  have hb := C.2.1
  refine lv_aload_n hx hb dL_law_969 rfl (lv_at hl 1 rfl) ?_
  refine lv_aload_n hx hb dL_law_970 rfl (lv_at hl 0 rfl) ?_
  refine lv_iload_n hx hb dL_law_971 rfl (lv_at hl 3 rfl) ?_
  refine lv_iconst (v := 1) hx hb dL_law_972 (by decide) ?_
  refine lv_iadd hx hb dL_law_973 ?_
  refine va_sld hx hb hX hbl hbA hS (sc_in (k := 1) hi hL (by decide)) dL_law_974 ?_
  refine x_ci1 (rest := []) (x_runV C hE hP hS ykX11_unlike lkL_106 sh0 rfl (c_X11_unlike (hst _ _ hinv)) (by decide) rfl hl.1 (Nat.le_of_ble_eq_true rfl) dL_law_975) hS (fun r0 M0 H locs hq hP hS => ?_)
  refine lv_aload_n hx hb dL_law_978 rfl (lv_at hl 2 rfl) ?_
  refine lv_aload_n hx hb dL_law_979 rfl (lv_at hl 0 rfl) ?_
  refine lv_iload_n hx hb dL_law_980 rfl (lv_at hl 3 rfl) ?_
  refine lv_iconst (v := 1) hx hb dL_law_981 (by decide) ?_
  refine lv_iadd hx hb dL_law_982 ?_
  refine va_sld hx hb hX hbl hbA hS (sc_in (k := 1) hi hL (by decide)) dL_law_983 ?_
  refine x_ci1 (rest := [.int r0]) (x_runV C hE hP hS ykX12_unlike lkL_109 sh132 rfl (c_X12_unlike hq) (by decide) rfl hl.1 (Nat.le_of_ble_eq_true rfl) dL_law_984) hS (fun r1 M1 H locs hq hP hS => ?_)
  refine lv_icmp_eq (tgt := 1339) hx hb dL_law_987 (by decide) (fun hc => ?_) (fun hc => absurd hq.1.symm hc)
  exact hn _ _ H locs ls hq.2 hP hS (lv_sub hl [0, 1, 2, 3] rfl)
set_option maxRecDepth 100000 in
set_option maxHeartbeats 4000000 in
theorem law_c22 (C : CallFix p m c cL_law 4 s #[Value.ref b] TB RL) (hE : EnvOK G s) (hX : va_X b L xs s s.heap) (hbl : b < s.heap.size) (hbA : ¬ Aw G b) {i : Nat} (hi : i + 6 ≤ L) (hL : L ≤ 3072) (hst : ST_speed Inv) (hn : LN p l e s m below meth c G b i Inv 1339) : LN p l e s m below meth c G b i Inv 992 := by
  intro M h H locs ls hinv hP hS hl
  have hx := C.1
  have hb := C.2.1
  refine lv_aload_n hx hb dL_law_992 rfl (lv_at hl 1 rfl) ?_
  refine lv_aload_n hx hb dL_law_993 rfl (lv_at hl 0 rfl) ?_
  refine lv_iload_n hx hb dL_law_994 rfl (lv_at hl 3 rfl) ?_
  refine lv_iconst (v := 1) hx hb dL_law_995 (by decide) ?_
  refine lv_iadd hx hb dL_law_996 ?_
  refine va_sld hx hb hX hbl hbA hS (sc_in (k := 1) hi hL (by decide)) dL_law_997 ?_
  refine x_ci1 (rest := []) (x_runV C hE hP hS ykX11_speed lkL_110 sh0 rfl (c_X11_speed (hst _ _ hinv)) (by decide) rfl hl.1 (Nat.le_of_ble_eq_true rfl) dL_law_998) hS (fun r0 M0 H locs hq hP hS => ?_)
  refine lv_aload_n hx hb dL_law_1001 rfl (lv_at hl 2 rfl) ?_
  refine lv_aload_n hx hb dL_law_1002 rfl (lv_at hl 0 rfl) ?_
  refine lv_iload_n hx hb dL_law_1003 rfl (lv_at hl 3 rfl) ?_
  refine lv_iconst (v := 1) hx hb dL_law_1004 (by decide) ?_
  refine lv_iadd hx hb dL_law_1005 ?_
  refine va_sld hx hb hX hbl hbA hS (sc_in (k := 1) hi hL (by decide)) dL_law_1006 ?_
  refine x_ci1 (rest := [.int r0]) (x_runV C hE hP hS ykX12_speed lkL_113 sh132 rfl (c_X12_speed hq) (by decide) rfl hl.1 (Nat.le_of_ble_eq_true rfl) dL_law_1007) hS (fun r1 M1 H locs hq hP hS => ?_)
  refine lv_icmp_eq (tgt := 1339) hx hb dL_law_1010 (by decide) (fun hc => ?_) (fun hc => absurd hq.1.symm hc)
  exact hn _ _ H locs ls hq.2 hP hS (lv_sub hl [0, 1, 2, 3] rfl)
set_option maxRecDepth 100000 in
set_option maxHeartbeats 4000000 in
theorem law_c23 (C : CallFix p m c cL_law 4 s #[Value.ref b] TB RL) (hE : EnvOK G s) (hX : va_X b L xs s s.heap) (hbl : b < s.heap.size) (hbA : ¬ Aw G b) {i : Nat} (hi : i + 6 ≤ L) (hL : L ≤ 3072) (hst : ST_claim Inv) (hn : LN p l e s m below meth c G b i Inv 1339) : LN p l e s m below meth c G b i Inv 1015 := by
  intro M h H locs ls hinv hP hS hl
  have hx := C.1
  have hb := C.2.1
  refine lv_aload_n hx hb dL_law_1015 rfl (lv_at hl 1 rfl) ?_
  refine lv_aload_n hx hb dL_law_1016 rfl (lv_at hl 0 rfl) ?_
  refine lv_iload_n hx hb dL_law_1017 rfl (lv_at hl 3 rfl) ?_
  refine lv_iconst (v := 1) hx hb dL_law_1018 (by decide) ?_
  refine lv_iadd hx hb dL_law_1019 ?_
  refine va_sld hx hb hX hbl hbA hS (sc_in (k := 1) hi hL (by decide)) dL_law_1020 ?_
  refine lv_aload_n hx hb dL_law_1021 rfl (lv_at hl 0 rfl) ?_
  refine lv_iload_n hx hb dL_law_1022 rfl (lv_at hl 3 rfl) ?_
  refine lv_iconst (v := 2) hx hb dL_law_1023 (by decide) ?_
  refine lv_iadd hx hb dL_law_1024 ?_
  refine va_sld hx hb hX hbl hbA hS (sc_in (k := 2) hi hL (by decide)) dL_law_1025 ?_
  refine lv_aload_n hx hb dL_law_1026 rfl (lv_at hl 0 rfl) ?_
  refine lv_iload_n hx hb dL_law_1027 rfl (lv_at hl 3 rfl) ?_
  refine lv_iconst (v := 3) hx hb dL_law_1028 (by decide) ?_
  refine lv_iadd hx hb dL_law_1029 ?_
  refine va_sld hx hb hX hbl hbA hS (sc_in (k := 3) hi hL (by decide)) dL_law_1030 ?_
  refine lv_aload_n hx hb dL_law_1031 rfl (lv_at hl 0 rfl) ?_
  refine lv_iload_n hx hb dL_law_1032 rfl (lv_at hl 3 rfl) ?_
  refine lv_iconst (v := 4) hx hb dL_law_1033 (by decide) ?_
  refine lv_iadd hx hb dL_law_1034 ?_
  refine va_sld hx hb hX hbl hbA hS (sc_in (k := 4) hi hL (by decide)) dL_law_1035 ?_
  refine lv_if_eq (tgt := 1043) hx hb dL_law_1036 (by decide) (fun hz => ?_) (fun hz => ?_)
  · skip
    refine lv_iconst (v := 0) hx hb dL_law_1043 (by decide) ?_
    refine lv_aload_n hx hb dL_law_1044 rfl (lv_at hl 0 rfl) ?_
    refine lv_iload_n hx hb dL_law_1045 rfl (lv_at hl 3 rfl) ?_
    refine lv_iconst (v := 5) hx hb dL_law_1046 (by decide) ?_
    refine lv_iadd hx hb dL_law_1047 ?_
    refine va_sld hx hb hX hbl hbA hS (sc_in (k := 5) hi hL (by decide)) dL_law_1048 ?_
    refine W.eq (g2 := F0 m 1049 ls [.int (xs (Int32.toNatClampNeg ((nI i) + 5))), .int (bI false), .int (xs (Int32.toNatClampNeg ((nI i) + 3))), .int (xs (Int32.toNatClampNeg ((nI i) + 2))), .int (xs (Int32.toNatClampNeg ((nI i) + 1))), .ref (xa G 0)]) rfl ?_
    refine x_ci1 (rest := []) (x_runV C hE hP hS ykX11_claim lkL_114 sh0 rfl (c_X11_claim (hst _ _ _ _ _ _ hinv)) (by decide) rfl hl.1 (Nat.le_of_ble_eq_true rfl) dL_law_1049) hS (fun r0 M0 H locs hq hP hS => ?_)
    refine lv_aload_n hx hb dL_law_1052 rfl (lv_at hl 2 rfl) ?_
    refine lv_aload_n hx hb dL_law_1053 rfl (lv_at hl 0 rfl) ?_
    refine lv_iload_n hx hb dL_law_1054 rfl (lv_at hl 3 rfl) ?_
    refine lv_iconst (v := 1) hx hb dL_law_1055 (by decide) ?_
    refine lv_iadd hx hb dL_law_1056 ?_
    refine va_sld hx hb hX hbl hbA hS (sc_in (k := 1) hi hL (by decide)) dL_law_1057 ?_
    refine lv_aload_n hx hb dL_law_1058 rfl (lv_at hl 0 rfl) ?_
    refine lv_iload_n hx hb dL_law_1059 rfl (lv_at hl 3 rfl) ?_
    refine lv_iconst (v := 2) hx hb dL_law_1060 (by decide) ?_
    refine lv_iadd hx hb dL_law_1061 ?_
    refine va_sld hx hb hX hbl hbA hS (sc_in (k := 2) hi hL (by decide)) dL_law_1062 ?_
    refine lv_aload_n hx hb dL_law_1063 rfl (lv_at hl 0 rfl) ?_
    refine lv_iload_n hx hb dL_law_1064 rfl (lv_at hl 3 rfl) ?_
    refine lv_iconst (v := 3) hx hb dL_law_1065 (by decide) ?_
    refine lv_iadd hx hb dL_law_1066 ?_
    refine va_sld hx hb hX hbl hbA hS (sc_in (k := 3) hi hL (by decide)) dL_law_1067 ?_
    refine lv_aload_n hx hb dL_law_1068 rfl (lv_at hl 0 rfl) ?_
    refine lv_iload_n hx hb dL_law_1069 rfl (lv_at hl 3 rfl) ?_
    refine lv_iconst (v := 4) hx hb dL_law_1070 (by decide) ?_
    refine lv_iadd hx hb dL_law_1071 ?_
    refine va_sld hx hb hX hbl hbA hS (sc_in (k := 4) hi hL (by decide)) dL_law_1072 ?_
    refine lv_if_eq (tgt := 1080) hx hb dL_law_1073 (by decide) (fun _ => ?_) (fun hc => absurd hz hc)
    refine lv_iconst (v := 0) hx hb dL_law_1080 (by decide) ?_
    refine lv_aload_n hx hb dL_law_1081 rfl (lv_at hl 0 rfl) ?_
    refine lv_iload_n hx hb dL_law_1082 rfl (lv_at hl 3 rfl) ?_
    refine lv_iconst (v := 5) hx hb dL_law_1083 (by decide) ?_
    refine lv_iadd hx hb dL_law_1084 ?_
    refine va_sld hx hb hX hbl hbA hS (sc_in (k := 5) hi hL (by decide)) dL_law_1085 ?_
    refine W.eq (g2 := F0 m 1086 ls [.int (xs (Int32.toNatClampNeg ((nI i) + 5))), .int (bI false), .int (xs (Int32.toNatClampNeg ((nI i) + 3))), .int (xs (Int32.toNatClampNeg ((nI i) + 2))), .int (xs (Int32.toNatClampNeg ((nI i) + 1))), .ref (xa G 132), .int r0]) rfl ?_
    refine x_ci1 (rest := [.int r0]) (x_runV C hE hP hS ykX12_claim lkL_118 sh132 rfl (c_X12_claim hq) (by decide) rfl hl.1 (Nat.le_of_ble_eq_true rfl) dL_law_1086) hS (fun r1 M1 H locs hq hP hS => ?_)
    refine lv_icmp_eq (tgt := 1339) hx hb dL_law_1089 (by decide) (fun hc => ?_) (fun hc => absurd hq.1.symm hc)
    exact hn _ _ H locs ls hq.2 hP hS (lv_sub hl [0, 1, 2, 3] rfl)
  · skip
    refine lv_iconst (v := 1) hx hb dL_law_1039 (by decide) ?_
    refine lv_goto (tgt := 1044) hx hb dL_law_1040 (by decide) ?_
    refine lv_aload_n hx hb dL_law_1044 rfl (lv_at hl 0 rfl) ?_
    refine lv_iload_n hx hb dL_law_1045 rfl (lv_at hl 3 rfl) ?_
    refine lv_iconst (v := 5) hx hb dL_law_1046 (by decide) ?_
    refine lv_iadd hx hb dL_law_1047 ?_
    refine va_sld hx hb hX hbl hbA hS (sc_in (k := 5) hi hL (by decide)) dL_law_1048 ?_
    refine W.eq (g2 := F0 m 1049 ls [.int (xs (Int32.toNatClampNeg ((nI i) + 5))), .int (bI true), .int (xs (Int32.toNatClampNeg ((nI i) + 3))), .int (xs (Int32.toNatClampNeg ((nI i) + 2))), .int (xs (Int32.toNatClampNeg ((nI i) + 1))), .ref (xa G 0)]) rfl ?_
    refine x_ci1 (rest := []) (x_runV C hE hP hS ykX11_claim lkL_114 sh0 rfl (c_X11_claim (hst _ _ _ _ _ _ hinv)) (by decide) rfl hl.1 (Nat.le_of_ble_eq_true rfl) dL_law_1049) hS (fun r0 M0 H locs hq hP hS => ?_)
    refine lv_aload_n hx hb dL_law_1052 rfl (lv_at hl 2 rfl) ?_
    refine lv_aload_n hx hb dL_law_1053 rfl (lv_at hl 0 rfl) ?_
    refine lv_iload_n hx hb dL_law_1054 rfl (lv_at hl 3 rfl) ?_
    refine lv_iconst (v := 1) hx hb dL_law_1055 (by decide) ?_
    refine lv_iadd hx hb dL_law_1056 ?_
    refine va_sld hx hb hX hbl hbA hS (sc_in (k := 1) hi hL (by decide)) dL_law_1057 ?_
    refine lv_aload_n hx hb dL_law_1058 rfl (lv_at hl 0 rfl) ?_
    refine lv_iload_n hx hb dL_law_1059 rfl (lv_at hl 3 rfl) ?_
    refine lv_iconst (v := 2) hx hb dL_law_1060 (by decide) ?_
    refine lv_iadd hx hb dL_law_1061 ?_
    refine va_sld hx hb hX hbl hbA hS (sc_in (k := 2) hi hL (by decide)) dL_law_1062 ?_
    refine lv_aload_n hx hb dL_law_1063 rfl (lv_at hl 0 rfl) ?_
    refine lv_iload_n hx hb dL_law_1064 rfl (lv_at hl 3 rfl) ?_
    refine lv_iconst (v := 3) hx hb dL_law_1065 (by decide) ?_
    refine lv_iadd hx hb dL_law_1066 ?_
    refine va_sld hx hb hX hbl hbA hS (sc_in (k := 3) hi hL (by decide)) dL_law_1067 ?_
    refine lv_aload_n hx hb dL_law_1068 rfl (lv_at hl 0 rfl) ?_
    refine lv_iload_n hx hb dL_law_1069 rfl (lv_at hl 3 rfl) ?_
    refine lv_iconst (v := 4) hx hb dL_law_1070 (by decide) ?_
    refine lv_iadd hx hb dL_law_1071 ?_
    refine va_sld hx hb hX hbl hbA hS (sc_in (k := 4) hi hL (by decide)) dL_law_1072 ?_
    refine lv_if_eq (tgt := 1080) hx hb dL_law_1073 (by decide) (fun hc => absurd hc hz) (fun _ => ?_)
    refine lv_iconst (v := 1) hx hb dL_law_1076 (by decide) ?_
    refine lv_goto (tgt := 1081) hx hb dL_law_1077 (by decide) ?_
    refine lv_aload_n hx hb dL_law_1081 rfl (lv_at hl 0 rfl) ?_
    refine lv_iload_n hx hb dL_law_1082 rfl (lv_at hl 3 rfl) ?_
    refine lv_iconst (v := 5) hx hb dL_law_1083 (by decide) ?_
    refine lv_iadd hx hb dL_law_1084 ?_
    refine va_sld hx hb hX hbl hbA hS (sc_in (k := 5) hi hL (by decide)) dL_law_1085 ?_
    refine W.eq (g2 := F0 m 1086 ls [.int (xs (Int32.toNatClampNeg ((nI i) + 5))), .int (bI true), .int (xs (Int32.toNatClampNeg ((nI i) + 3))), .int (xs (Int32.toNatClampNeg ((nI i) + 2))), .int (xs (Int32.toNatClampNeg ((nI i) + 1))), .ref (xa G 132), .int r0]) rfl ?_
    refine x_ci1 (rest := [.int r0]) (x_runV C hE hP hS ykX12_claim lkL_118 sh132 rfl (c_X12_claim hq) (by decide) rfl hl.1 (Nat.le_of_ble_eq_true rfl) dL_law_1086) hS (fun r1 M1 H locs hq hP hS => ?_)
    refine lv_icmp_eq (tgt := 1339) hx hb dL_law_1089 (by decide) (fun hc => ?_) (fun hc => absurd hq.1.symm hc)
    exact hn _ _ H locs ls hq.2 hP hS (lv_sub hl [0, 1, 2, 3] rfl)
set_option maxRecDepth 100000 in
set_option maxHeartbeats 4000000 in
theorem law_c24 (C : CallFix p m c cL_law 4 s #[Value.ref b] TB RL) (hE : EnvOK G s) (hX : va_X b L xs s s.heap) (hbl : b < s.heap.size) (hbA : ¬ Aw G b) {i : Nat} (hi : i + 6 ≤ L) (hL : L ≤ 3072) (hst : ST_story Inv) (hn : LN p l e s m below meth c G b i Inv 1339) : LN p l e s m below meth c G b i Inv 1094 := by
  intro M h H locs ls hinv hP hS hl
  have hx := C.1
  have hb := C.2.1
  refine lv_aload_n hx hb dL_law_1094 rfl (lv_at hl 1 rfl) ?_
  refine lv_aload_n hx hb dL_law_1095 rfl (lv_at hl 0 rfl) ?_
  refine lv_iload_n hx hb dL_law_1096 rfl (lv_at hl 3 rfl) ?_
  refine lv_iconst (v := 1) hx hb dL_law_1097 (by decide) ?_
  refine lv_iadd hx hb dL_law_1098 ?_
  refine va_sld hx hb hX hbl hbA hS (sc_in (k := 1) hi hL (by decide)) dL_law_1099 ?_
  refine lv_aload_n hx hb dL_law_1100 rfl (lv_at hl 0 rfl) ?_
  refine lv_iload_n hx hb dL_law_1101 rfl (lv_at hl 3 rfl) ?_
  refine lv_iconst (v := 2) hx hb dL_law_1102 (by decide) ?_
  refine lv_iadd hx hb dL_law_1103 ?_
  refine va_sld hx hb hX hbl hbA hS (sc_in (k := 2) hi hL (by decide)) dL_law_1104 ?_
  refine x_ci1 (rest := []) (x_runV C hE hP hS ykX11_story lkL_119 sh0 rfl (c_X11_story (hst _ _ _ hinv)) (by decide) rfl hl.1 (Nat.le_of_ble_eq_true rfl) dL_law_1105) hS (fun r0 M0 H locs hq hP hS => ?_)
  refine lv_aload_n hx hb dL_law_1108 rfl (lv_at hl 2 rfl) ?_
  refine lv_aload_n hx hb dL_law_1109 rfl (lv_at hl 0 rfl) ?_
  refine lv_iload_n hx hb dL_law_1110 rfl (lv_at hl 3 rfl) ?_
  refine lv_iconst (v := 1) hx hb dL_law_1111 (by decide) ?_
  refine lv_iadd hx hb dL_law_1112 ?_
  refine va_sld hx hb hX hbl hbA hS (sc_in (k := 1) hi hL (by decide)) dL_law_1113 ?_
  refine lv_aload_n hx hb dL_law_1114 rfl (lv_at hl 0 rfl) ?_
  refine lv_iload_n hx hb dL_law_1115 rfl (lv_at hl 3 rfl) ?_
  refine lv_iconst (v := 2) hx hb dL_law_1116 (by decide) ?_
  refine lv_iadd hx hb dL_law_1117 ?_
  refine va_sld hx hb hX hbl hbA hS (sc_in (k := 2) hi hL (by decide)) dL_law_1118 ?_
  refine x_ci1 (rest := [.int r0]) (x_runV C hE hP hS ykX12_story lkL_122 sh132 rfl (c_X12_story hq) (by decide) rfl hl.1 (Nat.le_of_ble_eq_true rfl) dL_law_1119) hS (fun r1 M1 H locs hq hP hS => ?_)
  refine lv_icmp_eq (tgt := 1339) hx hb dL_law_1122 (by decide) (fun hc => ?_) (fun hc => absurd hq.1.symm hc)
  exact hn _ _ H locs ls hq.2 hP hS (lv_sub hl [0, 1, 2, 3] rfl)
set_option maxRecDepth 100000 in
set_option maxHeartbeats 4000000 in
theorem law_c25 (C : CallFix p m c cL_law 4 s #[Value.ref b] TB RL) (hE : EnvOK G s) (hX : va_X b L xs s s.heap) (hbl : b < s.heap.size) (hbA : ¬ Aw G b) {i : Nat} (hi : i + 6 ≤ L) (hL : L ≤ 3072) (hst : ST_judge Inv) (hn : LN p l e s m below meth c G b i Inv 1339) : LN p l e s m below meth c G b i Inv 1127 := by
  intro M h H locs ls hinv hP hS hl
  have hx := C.1
  have hb := C.2.1
  refine lv_aload_n hx hb dL_law_1127 rfl (lv_at hl 1 rfl) ?_
  refine lv_aload_n hx hb dL_law_1128 rfl (lv_at hl 0 rfl) ?_
  refine lv_iload_n hx hb dL_law_1129 rfl (lv_at hl 3 rfl) ?_
  refine lv_iconst (v := 1) hx hb dL_law_1130 (by decide) ?_
  refine lv_iadd hx hb dL_law_1131 ?_
  refine va_sld hx hb hX hbl hbA hS (sc_in (k := 1) hi hL (by decide)) dL_law_1132 ?_
  refine lv_aload_n hx hb dL_law_1133 rfl (lv_at hl 0 rfl) ?_
  refine lv_iload_n hx hb dL_law_1134 rfl (lv_at hl 3 rfl) ?_
  refine lv_iconst (v := 2) hx hb dL_law_1135 (by decide) ?_
  refine lv_iadd hx hb dL_law_1136 ?_
  refine va_sld hx hb hX hbl hbA hS (sc_in (k := 2) hi hL (by decide)) dL_law_1137 ?_
  refine lv_i2l hx hb dL_law_1138 rfl ?_
  refine lv_bipush (v := 32) hx hb dL_law_1139 (by decide) ?_
  refine x_lshl C dL_law_1141 ?_
  refine lv_aload_n hx hb dL_law_1142 rfl (lv_at hl 0 rfl) ?_
  refine lv_iload_n hx hb dL_law_1143 rfl (lv_at hl 3 rfl) ?_
  refine lv_iconst (v := 3) hx hb dL_law_1144 (by decide) ?_
  refine lv_iadd hx hb dL_law_1145 ?_
  refine va_sld hx hb hX hbl hbA hS (sc_in (k := 3) hi hL (by decide)) dL_law_1146 ?_
  refine lv_i2l hx hb dL_law_1147 rfl ?_
  refine lv_ldc2 hx hb C.2.2.2.1 (C.2.2.2.2 _ ckL_66) dL_law_1148 ?_
  refine lv_land hx hb dL_law_1151 ?_
  refine lv_lor hx hb dL_law_1152 ?_
  refine x_ci1 (rest := []) (x_runV C hE hP hS ykX11_judge lkL_123 sh0 rfl (c_X11_judge (hst _ _ _ hinv)) (by decide) rfl hl.1 (Nat.le_of_ble_eq_true rfl) dL_law_1153) hS (fun r0 M0 H locs hq hP hS => ?_)
  refine lv_aload_n hx hb dL_law_1156 rfl (lv_at hl 2 rfl) ?_
  refine lv_aload_n hx hb dL_law_1157 rfl (lv_at hl 0 rfl) ?_
  refine lv_iload_n hx hb dL_law_1158 rfl (lv_at hl 3 rfl) ?_
  refine lv_iconst (v := 1) hx hb dL_law_1159 (by decide) ?_
  refine lv_iadd hx hb dL_law_1160 ?_
  refine va_sld hx hb hX hbl hbA hS (sc_in (k := 1) hi hL (by decide)) dL_law_1161 ?_
  refine lv_aload_n hx hb dL_law_1162 rfl (lv_at hl 0 rfl) ?_
  refine lv_iload_n hx hb dL_law_1163 rfl (lv_at hl 3 rfl) ?_
  refine lv_iconst (v := 2) hx hb dL_law_1164 (by decide) ?_
  refine lv_iadd hx hb dL_law_1165 ?_
  refine va_sld hx hb hX hbl hbA hS (sc_in (k := 2) hi hL (by decide)) dL_law_1166 ?_
  refine lv_i2l hx hb dL_law_1167 rfl ?_
  refine lv_bipush (v := 32) hx hb dL_law_1168 (by decide) ?_
  refine x_lshl C dL_law_1170 ?_
  refine lv_aload_n hx hb dL_law_1171 rfl (lv_at hl 0 rfl) ?_
  refine lv_iload_n hx hb dL_law_1172 rfl (lv_at hl 3 rfl) ?_
  refine lv_iconst (v := 3) hx hb dL_law_1173 (by decide) ?_
  refine lv_iadd hx hb dL_law_1174 ?_
  refine va_sld hx hb hX hbl hbA hS (sc_in (k := 3) hi hL (by decide)) dL_law_1175 ?_
  refine lv_i2l hx hb dL_law_1176 rfl ?_
  refine lv_ldc2 hx hb C.2.2.2.1 (C.2.2.2.2 _ ckL_66) dL_law_1177 ?_
  refine lv_land hx hb dL_law_1180 ?_
  refine lv_lor hx hb dL_law_1181 ?_
  refine x_ci1 (rest := [.int r0]) (x_runV C hE hP hS ykX12_judge lkL_127 sh132 rfl (c_X12_judge hq) (by decide) rfl hl.1 (Nat.le_of_ble_eq_true rfl) dL_law_1182) hS (fun r1 M1 H locs hq hP hS => ?_)
  refine lv_icmp_eq (tgt := 1339) hx hb dL_law_1185 (by decide) (fun hc => ?_) (fun hc => absurd hq.1.symm hc)
  exact hn _ _ H locs ls hq.2 hP hS (lv_sub hl [0, 1, 2, 3] rfl)
set_option maxRecDepth 100000 in
set_option maxHeartbeats 4000000 in
theorem law_c26 (C : CallFix p m c cL_law 4 s #[Value.ref b] TB RL) (hE : EnvOK G s) (hX : va_X b L xs s s.heap) (hbl : b < s.heap.size) (hbA : ¬ Aw G b) {i : Nat} (hi : i + 6 ≤ L) (hL : L ≤ 3072) (hst : ST_pole Inv) (hn : LN p l e s m below meth c G b i Inv 1339) : LN p l e s m below meth c G b i Inv 1190 := by
  intro M h H locs ls hinv hP hS hl
  have hx := C.1
  have hb := C.2.1
  refine lv_aload_n hx hb dL_law_1190 rfl (lv_at hl 1 rfl) ?_
  refine lv_aload_n hx hb dL_law_1191 rfl (lv_at hl 0 rfl) ?_
  refine lv_iload_n hx hb dL_law_1192 rfl (lv_at hl 3 rfl) ?_
  refine lv_iconst (v := 1) hx hb dL_law_1193 (by decide) ?_
  refine lv_iadd hx hb dL_law_1194 ?_
  refine va_sld hx hb hX hbl hbA hS (sc_in (k := 1) hi hL (by decide)) dL_law_1195 ?_
  refine lv_aload_n hx hb dL_law_1196 rfl (lv_at hl 0 rfl) ?_
  refine lv_iload_n hx hb dL_law_1197 rfl (lv_at hl 3 rfl) ?_
  refine lv_iconst (v := 2) hx hb dL_law_1198 (by decide) ?_
  refine lv_iadd hx hb dL_law_1199 ?_
  refine va_sld hx hb hX hbl hbA hS (sc_in (k := 2) hi hL (by decide)) dL_law_1200 ?_
  refine lv_aload_n hx hb dL_law_1201 rfl (lv_at hl 0 rfl) ?_
  refine lv_iload_n hx hb dL_law_1202 rfl (lv_at hl 3 rfl) ?_
  refine lv_iconst (v := 3) hx hb dL_law_1203 (by decide) ?_
  refine lv_iadd hx hb dL_law_1204 ?_
  refine va_sld hx hb hX hbl hbA hS (sc_in (k := 3) hi hL (by decide)) dL_law_1205 ?_
  refine lv_aload_n hx hb dL_law_1206 rfl (lv_at hl 0 rfl) ?_
  refine lv_iload_n hx hb dL_law_1207 rfl (lv_at hl 3 rfl) ?_
  refine lv_iconst (v := 4) hx hb dL_law_1208 (by decide) ?_
  refine lv_iadd hx hb dL_law_1209 ?_
  refine va_sld hx hb hX hbl hbA hS (sc_in (k := 4) hi hL (by decide)) dL_law_1210 ?_
  refine x_ci1 (rest := []) (x_runV C hE hP hS ykX11_pole lkL_128 sh0 rfl (c_X11_pole (hst _ _ _ _ _ hinv)) (by decide) rfl hl.1 (Nat.le_of_ble_eq_true rfl) dL_law_1211) hS (fun r0 M0 H locs hq hP hS => ?_)
  refine lv_aload_n hx hb dL_law_1214 rfl (lv_at hl 2 rfl) ?_
  refine lv_aload_n hx hb dL_law_1215 rfl (lv_at hl 0 rfl) ?_
  refine lv_iload_n hx hb dL_law_1216 rfl (lv_at hl 3 rfl) ?_
  refine lv_iconst (v := 1) hx hb dL_law_1217 (by decide) ?_
  refine lv_iadd hx hb dL_law_1218 ?_
  refine va_sld hx hb hX hbl hbA hS (sc_in (k := 1) hi hL (by decide)) dL_law_1219 ?_
  refine lv_aload_n hx hb dL_law_1220 rfl (lv_at hl 0 rfl) ?_
  refine lv_iload_n hx hb dL_law_1221 rfl (lv_at hl 3 rfl) ?_
  refine lv_iconst (v := 2) hx hb dL_law_1222 (by decide) ?_
  refine lv_iadd hx hb dL_law_1223 ?_
  refine va_sld hx hb hX hbl hbA hS (sc_in (k := 2) hi hL (by decide)) dL_law_1224 ?_
  refine lv_aload_n hx hb dL_law_1225 rfl (lv_at hl 0 rfl) ?_
  refine lv_iload_n hx hb dL_law_1226 rfl (lv_at hl 3 rfl) ?_
  refine lv_iconst (v := 3) hx hb dL_law_1227 (by decide) ?_
  refine lv_iadd hx hb dL_law_1228 ?_
  refine va_sld hx hb hX hbl hbA hS (sc_in (k := 3) hi hL (by decide)) dL_law_1229 ?_
  refine lv_aload_n hx hb dL_law_1230 rfl (lv_at hl 0 rfl) ?_
  refine lv_iload_n hx hb dL_law_1231 rfl (lv_at hl 3 rfl) ?_
  refine lv_iconst (v := 4) hx hb dL_law_1232 (by decide) ?_
  refine lv_iadd hx hb dL_law_1233 ?_
  refine va_sld hx hb hX hbl hbA hS (sc_in (k := 4) hi hL (by decide)) dL_law_1234 ?_
  refine x_ci0 (rest := [.int r0]) (x_runV C hE hP hS ykX12_pole lkL_131 sh132 rfl (c_X12_pole hq) (by decide) rfl hl.1 (Nat.le_of_ble_eq_true rfl) dL_law_1235) hS (fun r1 H locs hq hP hS => ?_)
  refine lv_icmp_eq (tgt := 1339) hx hb dL_law_1238 (by decide) (fun hc => ?_) (fun hc => absurd hq.1.symm hc)
  exact hn _ _ H locs ls hq.2 hP hS (lv_sub hl [0, 1, 2, 3] rfl)
set_option maxRecDepth 100000 in
set_option maxHeartbeats 4000000 in
theorem law_c27 (C : CallFix p m c cL_law 4 s #[Value.ref b] TB RL) (hE : EnvOK G s) (hX : va_X b L xs s s.heap) (hbl : b < s.heap.size) (hbA : ¬ Aw G b) {i : Nat} (hi : i + 6 ≤ L) (hL : L ≤ 3072) (hst : ST_floor Inv) (hn : LN p l e s m below meth c G b i Inv 1339) : LN p l e s m below meth c G b i Inv 1243 := by
  intro M h H locs ls hinv hP hS hl
  have hx := C.1
  have hb := C.2.1
  refine lv_aload_n hx hb dL_law_1243 rfl (lv_at hl 1 rfl) ?_
  refine lv_aload_n hx hb dL_law_1244 rfl (lv_at hl 0 rfl) ?_
  refine lv_iload_n hx hb dL_law_1245 rfl (lv_at hl 3 rfl) ?_
  refine lv_iconst (v := 1) hx hb dL_law_1246 (by decide) ?_
  refine lv_iadd hx hb dL_law_1247 ?_
  refine va_sld hx hb hX hbl hbA hS (sc_in (k := 1) hi hL (by decide)) dL_law_1248 ?_
  refine x_ci1 (rest := []) (x_runV C hE hP hS ykX11_floor lkL_132 sh0 rfl (c_X11_floor (hst _ _ hinv)) (by decide) rfl hl.1 (Nat.le_of_ble_eq_true rfl) dL_law_1249) hS (fun r0 M0 H locs hq hP hS => ?_)
  refine lv_aload_n hx hb dL_law_1252 rfl (lv_at hl 2 rfl) ?_
  refine lv_aload_n hx hb dL_law_1253 rfl (lv_at hl 0 rfl) ?_
  refine lv_iload_n hx hb dL_law_1254 rfl (lv_at hl 3 rfl) ?_
  refine lv_iconst (v := 1) hx hb dL_law_1255 (by decide) ?_
  refine lv_iadd hx hb dL_law_1256 ?_
  refine va_sld hx hb hX hbl hbA hS (sc_in (k := 1) hi hL (by decide)) dL_law_1257 ?_
  refine x_ci1 (rest := [.int r0]) (x_runV C hE hP hS ykX12_floor lkL_135 sh132 rfl (c_X12_floor hq) (by decide) rfl hl.1 (Nat.le_of_ble_eq_true rfl) dL_law_1258) hS (fun r1 M1 H locs hq hP hS => ?_)
  refine lv_icmp_eq (tgt := 1339) hx hb dL_law_1261 (by decide) (fun hc => ?_) (fun hc => absurd hq.1.symm hc)
  exact hn _ _ H locs ls hq.2 hP hS (lv_sub hl [0, 1, 2, 3] rfl)
set_option maxRecDepth 100000 in
set_option maxHeartbeats 4000000 in
theorem law_c28 (C : CallFix p m c cL_law 4 s #[Value.ref b] TB RL) (hE : EnvOK G s) (hX : va_X b L xs s s.heap) (hbl : b < s.heap.size) (hbA : ¬ Aw G b) {i : Nat} (hi : i + 6 ≤ L) (hL : L ≤ 3072) (hst : ST_mirror Inv) (hn : LN p l e s m below meth c G b i Inv 1339) : LN p l e s m below meth c G b i Inv 1266 := by
  intro M h H locs ls hinv hP hS hl
  have hx := C.1
  have hb := C.2.1
  refine lv_aload_n hx hb dL_law_1266 rfl (lv_at hl 1 rfl) ?_
  refine lv_aload_n hx hb dL_law_1267 rfl (lv_at hl 0 rfl) ?_
  refine lv_iload_n hx hb dL_law_1268 rfl (lv_at hl 3 rfl) ?_
  refine lv_iconst (v := 1) hx hb dL_law_1269 (by decide) ?_
  refine lv_iadd hx hb dL_law_1270 ?_
  refine va_sld hx hb hX hbl hbA hS (sc_in (k := 1) hi hL (by decide)) dL_law_1271 ?_
  refine x_ci0 (rest := []) (x_runV C hE hP hS ykX11_mirror lkL_136 sh0 rfl (c_X11_mirror (hst _ _ hinv)) (by decide) rfl hl.1 (Nat.le_of_ble_eq_true rfl) dL_law_1272) hS (fun r0 H locs hq hP hS => ?_)
  refine lv_aload_n hx hb dL_law_1275 rfl (lv_at hl 2 rfl) ?_
  refine lv_aload_n hx hb dL_law_1276 rfl (lv_at hl 0 rfl) ?_
  refine lv_iload_n hx hb dL_law_1277 rfl (lv_at hl 3 rfl) ?_
  refine lv_iconst (v := 1) hx hb dL_law_1278 (by decide) ?_
  refine lv_iadd hx hb dL_law_1279 ?_
  refine va_sld hx hb hX hbl hbA hS (sc_in (k := 1) hi hL (by decide)) dL_law_1280 ?_
  refine x_ci0 (rest := [.int r0]) (x_runV C hE hP hS ykX12_mirror lkL_139 sh132 rfl (c_X12_mirror hq) (by decide) rfl hl.1 (Nat.le_of_ble_eq_true rfl) dL_law_1281) hS (fun r1 H locs hq hP hS => ?_)
  refine lv_icmp_eq (tgt := 1339) hx hb dL_law_1284 (by decide) (fun hc => ?_) (fun hc => absurd hq.1.symm hc)
  exact hn _ _ H locs ls hq.2 hP hS (lv_sub hl [0, 1, 2, 3] rfl)
set_option maxRecDepth 100000 in
set_option maxHeartbeats 4000000 in
theorem law_c29 (C : CallFix p m c cL_law 4 s #[Value.ref b] TB RL) (hE : EnvOK G s) (hX : va_X b L xs s s.heap) (hbl : b < s.heap.size) (hbA : ¬ Aw G b) {i : Nat} (hi : i + 6 ≤ L) (hL : L ≤ 3072) (hst : ST_ridge Inv) (hn : LN p l e s m below meth c G b i Inv 1339) : LN p l e s m below meth c G b i Inv 1289 := by
  intro M h H locs ls hinv hP hS hl
  have hx := C.1
  have hb := C.2.1
  refine lv_aload_n hx hb dL_law_1289 rfl (lv_at hl 1 rfl) ?_
  refine x_ci0 (rest := []) (x_runV C hE hP hS ykX11_ridge lkL_140 sh0 rfl (c_X11_ridge (hst  _ hinv)) (by decide) rfl hl.1 (Nat.le_of_ble_eq_true rfl) dL_law_1290) hS (fun r0 H locs hq hP hS => ?_)
  refine lv_aload_n hx hb dL_law_1293 rfl (lv_at hl 2 rfl) ?_
  refine x_ci0 (rest := [.int r0]) (x_runV C hE hP hS ykX12_ridge lkL_143 sh132 rfl (c_X12_ridge hq) (by decide) rfl hl.1 (Nat.le_of_ble_eq_true rfl) dL_law_1294) hS (fun r1 H locs hq hP hS => ?_)
  refine lv_icmp_eq (tgt := 1339) hx hb dL_law_1297 (by decide) (fun hc => ?_) (fun hc => absurd hq.1.symm hc)
  exact hn _ _ H locs ls hq.2 hP hS (lv_sub hl [0, 1, 2, 3] rfl)
set_option maxRecDepth 100000 in
set_option maxHeartbeats 4000000 in
theorem law_c30 (C : CallFix p m c cL_law 4 s #[Value.ref b] TB RL) (hE : EnvOK G s) (hX : va_X b L xs s s.heap) (hbl : b < s.heap.size) (hbA : ¬ Aw G b) {i : Nat} (hi : i + 6 ≤ L) (hL : L ≤ 3072) (hst : ST_count Inv) (hn : LN p l e s m below meth c G b i Inv 1339) : LN p l e s m below meth c G b i Inv 1302 := by
  intro M h H locs ls hinv hP hS hl
  have hx := C.1
  have hb := C.2.1
  refine lv_aload_n hx hb dL_law_1302 rfl (lv_at hl 1 rfl) ?_
  refine lv_aload_n hx hb dL_law_1303 rfl (lv_at hl 0 rfl) ?_
  refine lv_iload_n hx hb dL_law_1304 rfl (lv_at hl 3 rfl) ?_
  refine lv_iconst (v := 1) hx hb dL_law_1305 (by decide) ?_
  refine lv_iadd hx hb dL_law_1306 ?_
  refine va_sld hx hb hX hbl hbA hS (sc_in (k := 1) hi hL (by decide)) dL_law_1307 ?_
  refine x_ci0 (rest := []) (x_runV C hE hP hS ykX11_count lkL_144 sh0 rfl (c_X11_count (hst _ _ hinv)) (by decide) rfl hl.1 (Nat.le_of_ble_eq_true rfl) dL_law_1308) hS (fun r0 H locs hq hP hS => ?_)
  refine lv_aload_n hx hb dL_law_1311 rfl (lv_at hl 2 rfl) ?_
  refine lv_aload_n hx hb dL_law_1312 rfl (lv_at hl 0 rfl) ?_
  refine lv_iload_n hx hb dL_law_1313 rfl (lv_at hl 3 rfl) ?_
  refine lv_iconst (v := 1) hx hb dL_law_1314 (by decide) ?_
  refine lv_iadd hx hb dL_law_1315 ?_
  refine va_sld hx hb hX hbl hbA hS (sc_in (k := 1) hi hL (by decide)) dL_law_1316 ?_
  refine x_ci0 (rest := [.int r0]) (x_runV C hE hP hS ykX12_count lkL_147 sh132 rfl (c_X12_count hq) (by decide) rfl hl.1 (Nat.le_of_ble_eq_true rfl) dL_law_1317) hS (fun r1 H locs hq hP hS => ?_)
  refine lv_icmp_eq (tgt := 1339) hx hb dL_law_1320 (by decide) (fun hc => ?_) (fun hc => absurd hq.1.symm hc)
  exact hn _ _ H locs ls hq.2 hP hS (lv_sub hl [0, 1, 2, 3] rfl)
set_option maxRecDepth 100000 in
set_option maxHeartbeats 4000000 in
theorem law_c31 (C : CallFix p m c cL_law 4 s #[Value.ref b] TB RL) (hE : EnvOK G s) (hX : va_X b L xs s s.heap) (hbl : b < s.heap.size) (hbA : ¬ Aw G b) {i : Nat} (hi : i + 6 ≤ L) (hL : L ≤ 3072) (hst : ST_digest Inv) (hn : LN p l e s m below meth c G b i Inv 1339) : LN p l e s m below meth c G b i Inv 1325 := by
  intro M h H locs ls hinv hP hS hl
  have hx := C.1
  have hb := C.2.1
  refine lv_aload_n hx hb dL_law_1325 rfl (lv_at hl 1 rfl) ?_
  refine x_cl1 (rest := []) (x_runV C hE hP hS ykX11_digest lkL_148 sh0 rfl (c_X11_digest (hst  _ h hinv)) (by decide) rfl hl.1 (Nat.le_of_ble_eq_true rfl) dL_law_1326) hS (fun r0 M0 H locs hq hP hS => ?_)
  refine lv_aload_n hx hb dL_law_1329 rfl (lv_at hl 2 rfl) ?_
  refine x_clh (rest := [.long r0]) (x_runV C hE hP hS ykX12_digest lkL_152 sh132 rfl (c_X12_digest hq) (by decide) rfl hl.1 (Nat.le_of_ble_eq_true rfl) dL_law_1330) hS (fun r1 M1 h1 H locs hq hP hS => ?_)
  refine W.lcmp hx hb dL_law_1333 ?_
  refine lv_if_eq (tgt := 1339) hx hb dL_law_1334 (by decide) (fun hc => ?_) (fun hc => absurd (by have h9 : r1 = r0 := hq.1; rw [h9]; exact lc_self _) hc)
  exact hn _ _ H locs ls hq.2 hP hS (lv_sub hl [0, 1, 2, 3] rfl)
end LAW
