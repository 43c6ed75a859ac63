def shA : List Sh := [.inl (11, [some (some 1), some (some 5), some (some 9), some (some 10), some (some 12), some (some 63), some (some 114), some (some 117), some (some 120), some (some 129), some (some 131)]), .inl (2, [some (some 2), some (some 3), some (some 4)]), .inr (0, 128, 0), .inr (0, 48, 0), .inr (0, 36, 0), .inl (5, [some (some 1), some (some 6), some (some 7), some (some 8), none]), .inr (0, 40, 0), .inr (0, 40, 0), .inr (0, 40, 0), .inl (1, [some (some 1), none, none, none, none, none, none, none, none]), .inl (6, [some (some 11), none]), .inr (0, 50, 0)]
def shB : List Sh := [.inl (0, [some (some 115), some (some 116), none]), .inr (0, 8, 0), .inr (0, 8, 0), .inl (8, [some (some 1), some (some 114), some (some 118), some (some 119), none, none]), .inr (0, 36, 0), .inr (0, 6, 0), .inl (9, [some (some 9), some (some 121), some (some 122), some (some 123), some (some 124), some (some 125), none, none, some (some 126), some (some 127), some (some 128)]), .inr (0, 12, 0), .inr (0, 12, 0), .inr (0, 12, 0), .inr (1, 12, 0), .inr (0, 12, 0), .inr (0, 160, 0), .inr (0, 160, 0), .inr (0, 10, 0), .inl (7, [some (some 5), some (some 130), none, none, none]), .inr (0, 128, 0), .inl (10, [none]), .inl (12, [some (some 133), none, some (some 134), some (some 135), some (some 136), some (some 137), some (some 138), none, some (some 139), some (some 140), some (some 141), some (some 142), some (some 143), some (some 144), none, none, none, none, none, none, some (some 145), some (some 146), none, some (some 147), none, some (some 148), none, some (some 149), some (some 150), none, some (some 151), none, none, none, none, some (some 152), some (some 153), some (some 154), some (some 155), some (some 156), some (some 157), none, some none]), .inr (0, 128, 0), .inr (0, 40, 0), .inr (0, 40, 0), .inr (0, 40, 0), .inr (0, 128, 0), .inr (0, 50, 0), .inr (0, 2, 0), .inr (0, 16, 0), .inr (0, 16, 0), .inr (0, 16, 0), .inr (0, 800, 0), .inr (0, 800, 0), .inr (0, 50, 0), .inr (0, 50, 0), .inr (0, 50, 0), .inr (1, 51, 0), .inr (0, 8, 0), .inr (0, 8, 0), .inr (0, 36, 0), .inr (0, 12, 0), .inr (0, 12, 0), .inr (0, 12, 0), .inr (1, 12, 0), .inr (0, 12, 0), .inr (0, 160, 0)]
def shp : List Sh := shA ++ (shHolder 12 ++ (shHolder 63 ++ shB))

abbrev GG : Type := va_G × (Nat → Nat) × (ClassId × ClassId × ClassId) × (Nat × (Nat → Nat) × (Nat → Nat))
abbrev xa (G : GG) : Nat → Nat := G.2.1
abbrev gI (G : GG) : ClassId := G.2.2.1.1
abbrev gZ (G : GG) : ClassId := G.2.2.1.2.1
abbrev gL (G : GG) : ClassId := G.2.2.1.2.2
abbrev gW (G : GG) : Nat := G.2.2.2.1
abbrev gK (G : GG) : Nat → Nat := G.2.2.2.2.1
abbrev gV (G : GG) : Nat → Nat := G.2.2.2.2.2
def fvE (G : GG) (R : Nat → Int32) (h : Int64) (k : Nat) (f : Option (Option Nat)) : Value := match f with
  | none => .int (R k)
  | some none => .long h
  | some (some q) => .ref (xa G q)
def shE (G : GG) (R : Nat → Int32) (h : Int64) (s : Sh) : va_E := match s with
  | .inl (ci, fs) => .inr (ci, fs.mapIdx (fvE G R h))
  | .inr (0, n, _) => .inl (gI G, n, .inl R)
  | .inr (1, n, _) => .inl (gZ G, n, .inl R)
  | .inr (_, n, b) => .inl (gL G, n, .inr (.inr (.inr (.inr (fun i => some (xa G (b + 6 * i)))))))
def wl (G : GG) (M : Mem) (h : Int64) : va_W := shp.mapIdx (fun p s => (xa G p, shE G (M p) h s))
theorem wl_at {G : GG} {M : Mem} {h : Int64} {p : Nat} {s : Sh} (hs : shp[p]? = some s) : (wl G M h)[p]? = some (xa G p, shE G (M p) h s) := by
  simp [wl, hs]
theorem wl_len {G : GG} {M : Mem} {h : Int64} : (wl G M h).length = shp.length := by simp [wl]
theorem wl_inv {G : GG} {M : Mem} {h : Int64} {p : Nat} {q : Nat × va_E} (hq : (wl G M h)[p]? = some q) : ∃ s, shp[p]? = some s ∧ q = (xa G p, shE G (M p) h s) := by
  simp only [wl, List.getElem?_mapIdx, Option.map_eq_some_iff] at hq
  obtain ⟨s, h1, h2⟩ := hq
  exact ⟨s, h1, h2.symm⟩
/-- a world with one cell set is the world of another memory, if the cell fits -/
theorem wl_set {G : GG} {M M' : Mem} {h h' : Int64} {p : Nat} {s : Sh} {e : va_E} (hs : shp[p]? = some s) (he : e = shE G (M' p) h' s)
    (ho : ∀ q t, q ≠ p → shp[q]? = some t → shE G (M q) h t = shE G (M' q) h' t) : (wl G M h).set p (xa G p, e) = wl G M' h' := by
  apply List.ext_getElem?
  intro q
  by_cases hq : q = p
  · subst hq
    have hl : q < (wl G M h).length := by rw [wl_len]; exact (List.getElem?_eq_some_iff.mp hs).1
    rw [List.getElem?_set_self hl, wl_at hs, he]
  · rw [List.getElem?_set_ne (Ne.symm hq)]
    cases ht : shp[q]? with
    | none => simp [wl, ht]
    | some t => rw [wl_at ht, wl_at ht, ho q t hq ht]
theorem up_self (M : Mem) (p k : Nat) (v : Int32) : up M p k v p = upd (M p) k v := by simp [up]
theorem up_ne (M : Mem) {p q : Nat} (k : Nat) (v : Int32) (h : q ≠ p) : up M p k v q = M q := by simp [up, h]
theorem fv_set {G : GG} {R : Nat → Int32} {h : Int64} {fs : List (Option (Option Nat))} {k : Nat} (v : Int32) (hk : fs[k]? = some none) : (fs.mapIdx (fvE G R h)).set k (.int v) = fs.mapIdx (fvE G (upd R k v) h) := by
  apply List.ext_getElem?
  intro j
  by_cases hj : j = k
  · subst hj
    have hl : j < (fs.mapIdx (fvE G R h)).length := by simp; exact (List.getElem?_eq_some_iff.mp hk).1
    rw [List.getElem?_set_self hl]
    simp [hk, fvE, upd]
  · rw [List.getElem?_set_ne (Ne.symm hj)]
    simp only [List.getElem?_mapIdx]
    cases fs[j]? with
    | none => rfl
    | some f => cases f with
      | none => simp [fvE, upd, hj]
      | some f => cases f <;> simp [fvE]
/-- which cells are the world's -/
def Aw (G : GG) : Nat → Prop := fun q => ∃ p, p < shp.length ∧ q = xa G p
def Ainj (G : GG) : Prop := ∀ i j, i < shp.length → j < shp.length → xa G i = xa G j → i = j
theorem wl_D {G : GG} (hG : Ainj G) (M : Mem) (h : Int64) : va_D (Aw G) (wl G M h) := by
  refine ⟨fun i j x y hi hj hxy => ?_, fun k q hk => ?_⟩
  · obtain ⟨s, h1, rfl⟩ := wl_inv hi
    obtain ⟨t, h2, rfl⟩ := wl_inv hj
    exact hG i j (List.getElem?_eq_some_iff.mp h1).1 (List.getElem?_eq_some_iff.mp h2).1 hxy
  · obtain ⟨s, h1, rfl⟩ := wl_inv hk
    exact ⟨k, (List.getElem?_eq_some_iff.mp h1).1, rfl⟩
def WT (k : Nat) : Int32 := [1, 3, 4, 1, 0, 2].getD k 0
def strN : List Nat := [4, 3, 3]
def strB : List (List Int32) := [[74, 66, 83, 67], [100, 101, 107], [60, 61, 62]]
def okw : Cond → Bool
  | .fieldLinkNest _ _ _ _ _ _ => true
  | .methodLinkNest _ _ _ _ => true
  | w => goodWord w
def TB : List Cond := lw_tbl.filter okw
theorem tb_in {w : Cond} (i : Nat) (h : lw_tbl[i]? = some w) (ho : okw w = true) : w ∈ TB := List.mem_filter.mpr ⟨List.mem_of_getElem? h, ho⟩
theorem okw_at {args a' : Array Value} {s U : State} (hW : s.WarmedH U.vm) {w : Cond} (ho : okw w = true) (h : w.before args s = true) : w.before a' U = true := by
  cases w with
  | fieldLinkNest a b c d e f => exact va_Nw.use rfl (va_Nw.warmF hW (va_Nw.of rfl h))
  | methodLinkNest a b c d => exact va_Nw.use rfl (va_Nw.warmM hW (va_Nw.of rfl h))
  | _ => exact word_at hW (good_of_word ho) h
def EnvW (U : State) : Prop := ∀ w ∈ TB, w.before #[] U = true
theorem EnvW.to {s U : State} (h : EnvW s) (hW : s.WarmedH U.vm) : EnvW U := fun w hw => okw_at hW (List.mem_filter.mp hw).2 (h w hw)
theorem EnvW.at {s : State} (h : EnvW s) (args : Array Value) : ∀ w ∈ TB, w.before args s = true := fun w hw => okw_at (State.WarmedH.refl s) (List.mem_filter.mp hw).2 (h w hw)
def EnvS (G : GG) (U : State) (H : Heap) : Prop :=
  va_Z "EdgesFit$Marks" "WEIGHTS" "[I" (.ref (gW G)) (Aw G) U H ∧ va_T .int (gW G) 6 (fun k => .int (WT k)) (Aw G) U H ∧ vk_S 3 strN strB (gK G) (gV G) (Aw G) U H ∧ va_Z "java/lang/String" "COMPACT_STRINGS" "Z" (.int 1) (Aw G) U H
theorem EnvS.to {G : GG} {s U : State} {H H1 : Heap} (h : EnvS G s H) (hvm : s.vm.Alike U.vm) (hq : ∀ a : Nat, a < H.size → ¬ Aw G a → H1[a]? = H[a]?) : EnvS G U H1 :=
  ⟨(h.1.moved hvm).kept hq, (h.2.1.moved hvm).kept hq, (h.2.2.1.moved hvm).kept hq, (h.2.2.2.moved hvm).kept hq⟩
def EnvR (G : GG) (U : State) : Prop := vk_R "EdgesFit$Page" 35 "JBSC" (gK G 0) U ∧ vk_R "EdgesFit$Page" 49 "dek" (gK G 1) U ∧ vk_R "EdgesFit$Page" 51 "<=>" (gK G 2) U ∧ vk_R "EdgesFit$Law" 51 "JBSC" (gK G 0) U
theorem EnvR.to {G : GG} {s U : State} (h : EnvR G s) (hW : s.WarmedH U.vm) : EnvR G U := ⟨h.1.warm hW, h.2.1.warm hW, h.2.2.1.warm hW, h.2.2.2.warm hW⟩
abbrev tysG (G : GG) : List (ClassId × FieldType) := [(gI G, .int), (gZ G, .boolean), (gL G, .object "EdgesFit$Law")]
def EnvOK (G : GG) (U : State) : Prop := Ainj G ∧ va_K G.1 vwCl (tysG G) U ∧ EnvW U ∧ EnvR G U ∧ EnvS G U U.heap
theorem EnvOK.to {G : GG} {s U : State} {locs : List Loc} (h : EnvOK G s) (hW : s.WarmedH U.vm) (hS : va_S (Aw G) s.heap U.heap locs) : EnvOK G U :=
  ⟨h.1, va_K.moved hW.alike h.2.1, h.2.2.1.to hW, h.2.2.2.1.to hW, h.2.2.2.2.to hW.alike hS.2.1⟩
def PreM (G : GG) (av : List Value) (M : Mem) (h : Int64) : Array Value → State → Prop := va_Pc av (fun U => EnvOK G U ∧ va_P G.1 vwCl (wl G M h) U.heap)
theorem vP_t {D : va_G} {cl : List vw_C} {ws : va_W} {H : Heap} {t : State} (ht : t.heap = H) (hP : va_P D cl ws H) : va_P D cl ws t.heap := by rw [ht]; exact hP
theorem PreM.blind {G : GG} {av : List Value} {M : Mem} {h : Int64} : FrameBlind (PreM G av M h) := by
  intro a U g mk q
  exact ⟨q.1, q.2.1.to (State.WarmedH.refl U) (va_S.rf : va_S (Aw G) U.heap U.heap []), q.2.2⟩
/-- a method's end: its answer and the memory -/
def QI (G : GG) (P : Int32 → Mem → Int64 → Prop) : Array Value → State → Outcome → State → Prop := va_Qi (S := Mem × Int64) (fun r u => P r u.1 u.2) (fun u t => va_P G.1 vwCl (wl G u.1 u.2) t.heap) (Aw G)
def QL (G : GG) (P : Int64 → Mem → Int64 → Prop) : Array Value → State → Outcome → State → Prop := va_Ql (S := Mem × Int64) (fun r u => P r u.1 u.2) (fun u t => va_P G.1 vwCl (wl G u.1 u.2) t.heap) (Aw G)
def QV (G : GG) (P : Mem → Int64 → Prop) : Array Value → State → Outcome → State → Prop := va_Qv (S := Mem × Int64) (fun u => P u.1 u.2) (fun u t => va_P G.1 vwCl (wl G u.1 u.2) t.heap) (Aw G)
def QR (G : GG) (q : Nat) (M : Mem) (h : Int64) : Array Value → State → Outcome → State → Prop := va_Qr (S := Unit) (fun _ => True) (fun _ a t => a = xa G q ∧ va_P G.1 vwCl (wl G M h) t.heap) (Aw G)
abbrev Met1 (l : Launch) (y : MethodName) (cc : ByteArray) (maxL : Nat) (ret : Option FieldType) (rm : Room) (G : GG) (av : List Value) (M : Mem) (h : Int64) (Q : Array Value → State → Outcome → State → Prop) : Prop := Met l y [.code y cc maxL ret] rm (PreM G av M h) Q 0 0 (Aw G)
theorem xm_start {l : Launch} {y : MethodName} {cc : ByteArray} {maxL : Nat} {ret : Option FieldType} {rm : Room} {G : GG} {av : List Value} {M : Mem} {h : Int64} {Q : Array Value → State → Outcome → State → Prop}
    (hy : plainName y.cls = true) (hn : (lg_sl av).length ≤ maxL)
    (body : ∀ (p : Program) (e : Env) (s : State) (m : MethodId) (below : List Frame) (meth : Method) (c : Code) (ls : Array Slot), CallFix p m c cc maxL s av.toArray TB y.cls → meth.sig.returnType = ret → meth.locks = false → EnvOK G s → va_P G.1 vwCl (wl G M h) s.heap → va_S (Aw G) s.heap s.heap [] → lv_has ls maxL (lv_args 0 av) →
      W p l e rm s m av.toArray below meth c s.heap [] 0 0 (MQ below Q av.toArray s 0 0 (Aw G)) (F0 m 0 ls [])) : Met1 l y cc maxL ret rm G av M h Q := by
  refine Met.ofW (cc := cc) (maxL := maxL) (ret := ret) hy rfl ?_
  intro p e s m args below meth c s₁ B hml hv
  obtain ⟨rfl, hE, hP⟩ := hv
  rw [lg_entry_eq]
  exact body p e s m below meth c _ ⟨B.exec, B.bytes, hml, findClass_of_methodNamed B.named, hE.2.2.1.at _⟩ B.returns B.notSynchronized hE hP va_S.rf (lv_entry av hn)
section XR
variable {p : Program} {l : Launch} {e : Env} {R : Room} {s : State} {m : MethodId} {args : Array Value} {below : List Frame} {meth : Method} {c : Code} {H : Heap} {locs : List Loc} {cells slots : Nat} {Q : State → Prop}
variable {cc : ByteArray} {pc : Nat} {ls : Array Slot} {rest : List Value} {G : GG} {M : Mem} {h : Int64} {nL : Nat} {own : String}
theorem x_irem (C : CallFix p m c cc nL s args TB own) {x y : Int32} (hdg : decode cc pc = .ok (.irem, 1)) (hne : ¬ y = 0) (k : W p l e R s m args below meth c H locs cells slots Q (F0 m (pc + 1) ls (.int (jrem x y) :: rest))) : W p l e R s m args below meth c H locs cells slots Q (F0 m pc ls (.int y :: .int x :: rest)) := lv_irem C.1 C.2.1 hdg hne k
theorem x_ishl (C : CallFix p m c cc nL s args TB own) {x y : Int32} (hdg : decode cc pc = .ok (.ishl, 1)) (k : W p l e R s m args below meth c H locs cells slots Q (F0 m (pc + 1) ls (.int (jshl x y) :: rest))) : W p l e R s m args below meth c H locs cells slots Q (F0 m pc ls (.int y :: .int x :: rest)) := lv_ishl C.1 C.2.1 hdg k
theorem x_ishr (C : CallFix p m c cc nL s args TB own) {x y : Int32} (hdg : decode cc pc = .ok (.ishr, 1)) (k : W p l e R s m args below meth c H locs cells slots Q (F0 m (pc + 1) ls (.int (jshr x y) :: rest))) : W p l e R s m args below meth c H locs cells slots Q (F0 m pc ls (.int y :: .int x :: rest)) := lv_ishr C.1 C.2.1 hdg k
theorem x_iushr (C : CallFix p m c cc nL s args TB own) {x y : Int32} (hdg : decode cc pc = .ok (.iushr, 1)) (k : W p l e R s m args below meth c H locs cells slots Q (F0 m (pc + 1) ls (.int (jushr x y) :: rest))) : W p l e R s m args below meth c H locs cells slots Q (F0 m pc ls (.int y :: .int x :: rest)) := lv_iushr C.1 C.2.1 hdg rfl k
theorem x_lushr (C : CallFix p m c cc nL s args TB own) {x : Int64} {y : Int32} (hdg : decode cc pc = .ok (.lushr, 1)) (k : W p l e R s m args below meth c H locs cells slots Q (F0 m (pc + 1) ls (.long (jlushr x y) :: rest))) : W p l e R s m args below meth c H locs cells slots Q (F0 m pc ls (.int y :: .long x :: rest)) := lv_lushr C.1 C.2.1 hdg rfl k
theorem x_lshl (C : CallFix p m c cc nL s args TB own) {x : Int64} {y : Int32} (hdg : decode cc pc = .ok (.lshl, 1)) (k : W p l e R s m args below meth c H locs cells slots Q (F0 m (pc + 1) ls (.long (jlshl x y) :: rest))) : W p l e R s m args below meth c H locs cells slots Q (F0 m pc ls (.int y :: .long x :: rest)) := lv_lshl C.1 C.2.1 hdg rfl k
theorem x_lshr (C : CallFix p m c cc nL s args TB own) {x : Int64} {y : Int32} (hdg : decode cc pc = .ok (.lshr, 1)) (k : W p l e R s m args below meth c H locs cells slots Q (F0 m (pc + 1) ls (.long (jlshr x y) :: rest))) : W p l e R s m args below meth c H locs cells slots Q (F0 m pc ls (.int y :: .long x :: rest)) := lv_lshr C.1 C.2.1 hdg rfl k
theorem x_i2c (C : CallFix p m c cc nL s args TB own) {x : Int32} (hdg : decode cc pc = .ok (.i2c, 1)) (k : W p l e R s m args below meth c H locs cells slots Q (F0 m (pc + 1) ls (.int (ji2c x) :: rest))) : W p l e R s m args below meth c H locs cells slots Q (F0 m pc ls (.int x :: rest)) := lv_i2c C.1 C.2.1 hdg rfl k
/-! rows of the world: ints and booleans -/
theorem x_iald (C : CallFix p m c cc nL s args TB own) (hE : EnvOK G s) (hP : va_P G.1 vwCl (wl G M h) H) {q n b : Nat} (hs : shp[q]? = some (.inr (0, n, b))) {i : Int32} (hi : inb i n = true) (hdg : decode cc pc = .ok (.iaload, 1))
    (k : W p l e R s m args below meth c H locs cells slots Q (F0 m (pc + 1) ls (.int (M q i.toNatClampNeg) :: rest))) : W p l e R s m args below meth c H locs cells slots Q (F0 m pc ls (.int i :: .ref (xa G q) :: rest)) :=
  va_iald C.1 C.2.1 hE.2.1 hP q 0 (wl_at hs) rfl (inb_in hi) hdg k
theorem x_zald (C : CallFix p m c cc nL s args TB own) (hE : EnvOK G s) (hP : va_P G.1 vwCl (wl G M h) H) {q n b : Nat} (hs : shp[q]? = some (.inr (1, n, b))) {i : Int32} (hi : inb i n = true) (hdg : decode cc pc = .ok (.baload, 1))
    (k : W p l e R s m args below meth c H locs cells slots Q (F0 m (pc + 1) ls (.int (M q i.toNatClampNeg) :: rest))) : W p l e R s m args below meth c H locs cells slots Q (F0 m pc ls (.int i :: .ref (xa G q) :: rest)) :=
  va_zald C.1 C.2.1 hE.2.1 hP q 1 (wl_at hs) rfl (inb_in hi) hdg k
theorem x_aald (C : CallFix p m c cc nL s args TB own) (hE : EnvOK G s) (hP : va_P G.1 vwCl (wl G M h) H) {q n b : Nat} (hs : shp[q]? = some (.inr (2, n, b))) {i : Int32} (hi : inb i n = true) (hdg : decode cc pc = .ok (.aaload, 1))
    (k : W p l e R s m args below meth c H locs cells slots Q (F0 m (pc + 1) ls (.ref (xa G (b + 6 * i.toNatClampNeg)) :: rest))) : W p l e R s m args below meth c H locs cells slots Q (F0 m pc ls (.int i :: .ref (xa G q) :: rest)) :=
  va_aldq C.1 C.2.1 hE.2.1 hP q 2 (wl_at hs) rfl (inb_in hi) hdg k
theorem wl_ia {q n b k : Nat} {v : Int32} (hs : shp[q]? = some (.inr (0, n, b))) : (wl G M h).set q (xa G q, .inl (gI G, n, .inl (upd (M q) k v))) = wl G (up M q k v) h := by
  refine wl_set hs ?_ (fun r t hr _ => by rw [up_ne M k v hr])
  rw [up_self]; rfl
theorem wl_za {q n b k : Nat} {v : Int32} (hs : shp[q]? = some (.inr (1, n, b))) : (wl G M h).set q (xa G q, .inl (gZ G, n, .inl (upd (M q) k v))) = wl G (up M q k v) h := by
  refine wl_set hs ?_ (fun r t hr _ => by rw [up_ne M k v hr])
  rw [up_self]; rfl
theorem x_iast (C : CallFix p m c cc nL s args TB own) (hE : EnvOK G s) (hP : va_P G.1 vwCl (wl G M h) H) (hS : va_S (Aw G) s.heap H locs) {q n b : Nat} (hs : shp[q]? = some (.inr (0, n, b))) {i x : Int32} (hi : inb i n = true) (hdg : decode cc pc = .ok (.iastore, 1))
    (k : ∀ (H1 : Heap) (locs1 : List Loc), va_P G.1 vwCl (wl G (up M q i.toNatClampNeg x) h) H1 → va_S (Aw G) s.heap H1 locs1 → W p l e R s m args below meth c H1 locs1 cells slots Q (F0 m (pc + 1) ls rest)) : W p l e R s m args below meth c H locs cells slots Q (F0 m pc ls (.int x :: .int i :: .ref (xa G q) :: rest)) :=
  va_iast C.1 C.2.1 hE.2.1 hP (wl_D hE.1 M h) hS q 0 (wl_at hs) rfl (inb_in hi) hdg (fun H1 locs1 h1 _ h3 => k H1 locs1 (by rw [← wl_ia hs]; exact h1) h3)
theorem x_zast (C : CallFix p m c cc nL s args TB own) (hE : EnvOK G s) (hP : va_P G.1 vwCl (wl G M h) H) (hS : va_S (Aw G) s.heap H locs) {q n b : Nat} (hs : shp[q]? = some (.inr (1, n, b))) {i x x' : Int32} (hx : vp_nar .boolean x = x') (hi : inb i n = true) (hdg : decode cc pc = .ok (.bastore, 1))
    (k : ∀ (H1 : Heap) (locs1 : List Loc), va_P G.1 vwCl (wl G (up M q i.toNatClampNeg x') h) H1 → va_S (Aw G) s.heap H1 locs1 → W p l e R s m args below meth c H1 locs1 cells slots Q (F0 m (pc + 1) ls rest)) : W p l e R s m args below meth c H locs cells slots Q (F0 m pc ls (.int x :: .int i :: .ref (xa G q) :: rest)) :=
  va_zast C.1 C.2.1 hE.2.1 hP (wl_D hE.1 M h) hS q 1 (wl_at hs) rfl (inb_in hi) hdg (fun H1 locs1 h1 _ h3 => k H1 locs1 (by rw [← wl_za hs, ← hx]; exact h1) h3)
theorem x_wt (C : CallFix p m c cc nL s args TB own) (hE : EnvOK G s) (hS : va_S (Aw G) s.heap H locs) {i : Int32} (hi : inb i 6 = true) (hdg : decode cc pc = .ok (.iaload, 1))
    (k : W p l e R s m args below meth c H locs cells slots Q (F0 m (pc + 1) ls (.int (WT i.toNatClampNeg) :: rest))) : W p l e R s m args below meth c H locs cells slots Q (F0 m pc ls (.int i :: .ref (gW G) :: rest)) :=
  va_ti C.1 C.2.1 hE.2.2.2.2.2.1 hS (inb_in hi) rfl hdg k
theorem x_gwt (C : CallFix p m c cc nL s args TB own) (hE : EnvOK G s) (hS : va_S (Aw G) s.heap H locs) {index : Nat} (hl : Cond.fieldLink own index "EdgesFit$Marks" "WEIGHTS" "[I" ∈ TB) (hdg : decode cc pc = .ok (.getstatic index, 3))
    (k : W p l e R s m args below meth c H locs cells slots Q (F0 m (pc + 3) ls (.ref (gW G) :: rest))) : W p l e R s m args below meth c H locs cells slots Q (F0 m pc ls rest) :=
  va_gets C.1 C.2.1 hE.2.2.2.2.1 hS C.2.2.2.1 (C.2.2.2.2 _ hl) (fun _ h => h) hdg k
/-! fields -/
theorem x_get (C : CallFix p m c cc nL s args TB own) (hE : EnvOK G s) (hP : va_P G.1 vwCl (wl G M h) H) {q ci N k index : Nat} {fs : List (Option (Option Nat))} {Cn : String} {T : u_T} {f : Option (Option Nat)} {v : Value} (hs : shp[q]? = some (.inl (ci, fs))) (hc : vwCl[ci]? = some (Cn, T, N)) (hin : ∀ w ∈ u_ws Cn T N, w ∈ TB) (hk : k < N) (hf : fs[k]? = some f) (hv : fvE G (M q) h k f = v) (hl : Cond.fieldLink own index (T k).1 (T k).2.1 (T k).2.2.1 ∈ TB) (hdg : decode cc pc = .ok (.getfield index, 3))
    (kk : W p l e R s m args below meth c H locs cells slots Q (F0 m (pc + 3) ls (v :: rest))) : W p l e R s m args below meth c H locs cells slots Q (F0 m pc ls (.ref (xa G q) :: rest)) :=
  va_get (D := G.1) C.1 C.2.1 C.2.2.2.2 hin C.2.2.2.1 hE.2.1 hP q (wl_at hs) hc k hk (C.2.2.2.2 _ hl) (fun _ h => h) (by rw [List.getElem?_mapIdx, hf, ← hv]; rfl) hdg kk
theorem x_getN (C : CallFix p m c cc nL s args TB own) (hE : EnvOK G s) (hP : va_P G.1 vwCl (wl G M h) H) {q ci N k index : Nat} {fs : List (Option (Option Nat))} {Cn host : String} {T : u_T} {f : Option (Option Nat)} {v : Value} (hs : shp[q]? = some (.inl (ci, fs))) (hc : vwCl[ci]? = some (Cn, T, N)) (hin : ∀ w ∈ u_ws Cn T N, w ∈ TB) (hk : k < N) (hf : fs[k]? = some f) (hv : fvE G (M q) h k f = v) (hl : Cond.fieldLinkNest own index (T k).1 (T k).2.1 (T k).2.2.1 host ∈ TB) (hdg : decode cc pc = .ok (.getfield index, 3))
    (kk : W p l e R s m args below meth c H locs cells slots Q (F0 m (pc + 3) ls (v :: rest))) : W p l e R s m args below meth c H locs cells slots Q (F0 m pc ls (.ref (xa G q) :: rest)) :=
  va_getN (D := G.1) C.1 C.2.1 C.2.2.2.2 hin C.2.2.2.1 hE.2.1 hP q (wl_at hs) hc k hk (C.2.2.2.2 _ hl) (fun _ h => h) (by rw [List.getElem?_mapIdx, hf, ← hv]; rfl) hdg kk
theorem wl_fi {q ci k : Nat} {v : Int32} {fs : List (Option (Option Nat))} (hs : shp[q]? = some (.inl (ci, fs))) (hk : fs[k]? = some none) : (wl G M h).set q (xa G q, .inr (ci, (fs.mapIdx (fvE G (M q) h)).set k (.int v))) = wl G (up M q k v) h := by
  refine wl_set hs ?_ (fun r t hr _ => by rw [up_ne M k v hr])
  rw [up_self, fv_set v hk]; rfl
theorem x_put (C : CallFix p m c cc nL s args TB own) (hE : EnvOK G s) (hP : va_P G.1 vwCl (wl G M h) H) (hS : va_S (Aw G) s.heap H locs) {q ci N k index : Nat} {fs : List (Option (Option Nat))} {Cn : String} {T : u_T} {v : Int32} {ty : FieldType} {ty0 : Nat → FieldType} (hs : shp[q]? = some (.inl (ci, fs))) (hc : vwCl[ci]? = some (Cn, T, N)) (hin : ∀ w ∈ u_ws Cn T N, w ∈ TB) (hty : ∀ k, k < N → parseFieldDescriptor (T k).2.2.1 = some (ty0 k)) (hnm : ∀ a, a < N → ∀ b, b < N → a ≠ b → (T a).2.1 ≠ (T b).2.1) (hk : k < N) (hf : fs[k]? = some none) (hl : Cond.fieldLink own index (T k).1 (T k).2.1 (T k).2.2.1 ∈ TB) (hfin : (T k).2.2.2 = false) (hd : parseFieldDescriptor (T k).2.2.1 = some ty) (hn : narrow ty (.int v) = .int v) (hfit : fits ty (.int v) = true) (hdg : decode cc pc = .ok (.putfield index, 3))
    (kk : ∀ (H1 : Heap) (locs1 : List Loc), va_P G.1 vwCl (wl G (up M q k v) h) H1 → va_S (Aw G) s.heap H1 locs1 → W p l e R s m args below meth c H1 locs1 cells slots Q (F0 m (pc + 3) ls rest)) : W p l e R s m args below meth c H locs cells slots Q (F0 m pc ls (.int v :: .ref (xa G q) :: rest)) :=
  va_put (D := G.1) C.1 C.2.1 C.2.2.2.2 hin ty0 hty hnm C.2.2.2.1 hE.2.1 hP (wl_D hE.1 M h) hS q (wl_at hs) hc k hk (C.2.2.2.2 _ hl) (fun _ h => h) hfin hd hn hfit (by rw [List.length_mapIdx]; exact (List.getElem?_eq_some_iff.mp hf).1) hdg (fun H1 locs1 h1 _ h3 => kk H1 locs1 (by rw [← wl_fi hs hf]; exact h1) h3)
/-! calls -/
def YV (y : MethodName) (bytes : ByteArray) (maxL : Nat) (ret : Option FieldType) (n : Nat) : Prop := Cond.code y bytes maxL ret ∈ TB ∧ Cond.instanceMethod y ∈ TB ∧ Cond.selects y.cls y y ∈ TB ∧ Cond.initialized y.cls ∈ TB ∧ (y.cls ≠ "java/lang/invoke/MethodHandle" ∧ y.cls ≠ "java/lang/invoke/VarHandle") ∧ (parseMethodDescriptor y.desc).map (fun d => d.parameters.length) = some n
def YS (y : MethodName) (bytes : ByteArray) (maxL : Nat) (ret : Option FieldType) (n : Nat) : Prop := Cond.code y bytes maxL ret ∈ TB ∧ Cond.static y ∈ TB ∧ Cond.initialized y.cls ∈ TB ∧ (y.cls ≠ "java/lang/invoke/MethodHandle" ∧ y.cls ≠ "java/lang/invoke/VarHandle") ∧ (parseMethodDescriptor y.desc).map (fun d => d.parameters.length) = some n
theorem x_pay {y : MethodName} {bytes : ByteArray} {maxL : Nat} {ret : Option FieldType} (hts : ∀ w ∈ TB, w.before args s = true) (hc : Cond.code y bytes maxL ret ∈ TB) : ∀ w ∈ [Cond.code y bytes maxL ret], ∀ (a' : Array Value) (U : State), s.WarmedH U.vm → w.before a' U = true := by
  intro w hw a' U hW
  rw [List.mem_singleton] at hw
  subst hw
  exact okw_at hW (List.mem_filter.mp hc).2 (hts _ hc)
theorem x_parn {y : MethodName} {n : Nat} (h : (parseMethodDescriptor y.desc).map (fun d => d.parameters.length) = some n) : ∀ sig, parseMethodDescriptor y.desc = some sig → n = sig.parameters.length := by
  intro sig hs
  rw [hs] at h
  exact (Option.some.inj h).symm
variable {y : MethodName} {bytes : ByteArray} {maxL : Nat} {ret : Option FieldType} {n index : Nat} {rm : Room} {As : List Value} {Qc : Array Value → State → Outcome → State → Prop}
abbrev RunT (p : Program) (l : Launch) (e : Env) (R : Room) (s : State) (m : MethodId) (args : Array Value) (below : List Frame) (meth : Method) (c : Code) (H : Heap) (locs : List Loc) (cells slots : Nat) (G : GG) (pc : Nat) (ls : Array Slot) (st rest : List Value) (Qa : State → Outcome → State → Prop) : Prop := va_Run p l e R s m args below meth c H locs cells slots 0 0 (F0 m pc ls st) rest Qa (Aw G)
theorem x_pre (hE : EnvOK G s) (hP : va_P G.1 vwCl (wl G M h) H) (hS : va_S (Aw G) s.heap H locs) (av : List Value) : ∀ U : State, U.heap = H → s.WarmedH U.vm → PreM G av M h av.toArray U := by
  intro U hU hW
  refine ⟨rfl, hE.to hW (locs := locs) (by rw [hU]; exact hS), by rw [hU]; exact hP⟩
theorem x_recv (hE : EnvOK G s) (hP : va_P G.1 vwCl (wl G M h) H) {q ci N : Nat} {fs : List (Option (Option Nat))} {Cn : String} {T : u_T} (hs : shp[q]? = some (.inl (ci, fs))) (hc : vwCl[ci]? = some (Cn, T, N)) : ∃ cell : Cell, H[xa G q]? = some cell ∧ cell.vm.isStatics = false ∧ s.vm.findClass Cn = some cell.cls := va_recv hE.2.1 hP (q := (Cn, T, N)) hc (wl_at hs)
theorem x_runV (C : CallFix p m c cc nL s args TB own) (hE : EnvOK G s) (hP : va_P G.1 vwCl (wl G M h) H) (hS : va_S (Aw G) s.heap H locs) (Y : YV y bytes maxL ret n) (hl : Cond.methodLink own index y ∈ TB) {q ci N : Nat} {fs : List (Option (Option Nat))} {T : u_T} (hs : shp[q]? = some (.inl (ci, fs))) (hc : vwCl[ci]? = some (y.cls, T, N))
    (hM : Met1 l y bytes maxL ret rm G (.ref (xa G q) :: As) M h Qc) (hR : rm.cells = 0 ∧ rm.slots = 0 ∧ rm.frames + 1 ≤ R.frames ∧ 8 + (maxL + 11) + rm.locals ≤ R.locals ∧ cells ≤ R.cells ∧ slots ≤ R.slots) (hn : As.length = n) (hsz : ls.size = nL) (hW : (rest.map fun v => v.category).sum ≤ 8) (hdg : decode cc pc = .ok (.invokevirtual index, 3)) :
    RunT p l e R s m args below meth c H locs cells slots G pc ls (As.reverse ++ .ref (xa G q) :: rest) rest (Qc (Value.ref (xa G q) :: As).toArray) :=
  va_runV (As := As) C hM ⟨⟨hR.1, hR.2.1, hR.2.2.1, hR.2.2.2.1, x_pay C.2.2.2.2 Y.1, List.mem_singleton_self _, C.2.2.2.2 _ Y.1, C.2.2.2.2 _ Y.2.2.2.1, Y.2.2.2.2.1, x_parn Y.2.2.2.2.2, C.2.2.2.2 _ hl⟩, C.2.2.2.2 _ Y.2.1, C.2.2.2.2 _ Y.2.2.1⟩ ⟨PreM.blind, x_recv hE hP hs hc, x_pre hE hP hS _⟩ rfl hn hsz rfl (lv_room hW) hdg ⟨hR.2.2.2.2.1, hR.2.2.2.2.2⟩
theorem x_runVN (C : CallFix p m c cc nL s args TB own) (hE : EnvOK G s) (hP : va_P G.1 vwCl (wl G M h) H) (hS : va_S (Aw G) s.heap H locs) (Y : YV y bytes maxL ret n) {host : String} (hl : Cond.methodLinkNest own index y host ∈ TB) {q ci N : Nat} {fs : List (Option (Option Nat))} {T : u_T} (hs : shp[q]? = some (.inl (ci, fs))) (hc : vwCl[ci]? = some (y.cls, T, N))
    (hM : Met1 l y bytes maxL ret rm G (.ref (xa G q) :: As) M h Qc) (hR : rm.cells = 0 ∧ rm.slots = 0 ∧ rm.frames + 1 ≤ R.frames ∧ 8 + (maxL + 11) + rm.locals ≤ R.locals ∧ cells ≤ R.cells ∧ slots ≤ R.slots) (hn : As.length = n) (hsz : ls.size = nL) (hW : (rest.map fun v => v.category).sum ≤ 8) (hdg : decode cc pc = .ok (.invokevirtual index, 3)) :
    RunT p l e R s m args below meth c H locs cells slots G pc ls (As.reverse ++ .ref (xa G q) :: rest) rest (Qc (Value.ref (xa G q) :: As).toArray) :=
  va_runVN (As := As) (host := host) C hM ⟨⟨⟨hR.1, hR.2.1, hR.2.2.1, hR.2.2.2.1, x_pay C.2.2.2.2 Y.1, List.mem_singleton_self _⟩, C.2.2.2.2 _ Y.1, C.2.2.2.2 _ Y.2.2.2.1, Y.2.2.2.2.1, x_parn Y.2.2.2.2.2, C.2.2.2.2 _ hl⟩, C.2.2.2.2 _ Y.2.1, C.2.2.2.2 _ Y.2.2.1⟩ ⟨PreM.blind, x_recv hE hP hs hc, x_pre hE hP hS _⟩ rfl hn hsz rfl (lv_room hW) hdg ⟨hR.2.2.2.2.1, hR.2.2.2.2.2⟩
theorem x_runS (C : CallFix p m c cc nL s args TB own) (hE : EnvOK G s) (hP : va_P G.1 vwCl (wl G M h) H) (hS : va_S (Aw G) s.heap H locs) (Y : YS y bytes maxL ret n) (hl : Cond.methodLink own index y ∈ TB)
    (hM : Met1 l y bytes maxL ret rm G As M h Qc) (hR : rm.cells = 0 ∧ rm.slots = 0 ∧ rm.frames + 1 ≤ R.frames ∧ 8 + (maxL + 11) + rm.locals ≤ R.locals ∧ cells ≤ R.cells ∧ slots ≤ R.slots) (hn : As.length = n) (hsz : ls.size = nL) (hW : (rest.map fun v => v.category).sum ≤ 8) (hdg : decode cc pc = .ok (.invokestatic index, 3)) :
    RunT p l e R s m args below meth c H locs cells slots G pc ls (As.reverse ++ rest) rest (Qc As.toArray) :=
  va_runS (As := As) C hM ⟨⟨hR.1, hR.2.1, hR.2.2.1, hR.2.2.2.1, x_pay C.2.2.2.2 Y.1, List.mem_singleton_self _, C.2.2.2.2 _ Y.1, C.2.2.2.2 _ Y.2.2.1, Y.2.2.2.1, x_parn Y.2.2.2.2, C.2.2.2.2 _ hl⟩, C.2.2.2.2 _ Y.2.1⟩ ⟨PreM.blind, x_pre hE hP hS _⟩ rfl hn hsz rfl (lv_room hW) hdg ⟨hR.2.2.2.2.1, hR.2.2.2.2.2⟩
theorem x_runSN (C : CallFix p m c cc nL s args TB own) (hE : EnvOK G s) (hP : va_P G.1 vwCl (wl G M h) H) (hS : va_S (Aw G) s.heap H locs) (Y : YS y bytes maxL ret n) {host : String} (hl : Cond.methodLinkNest own index y host ∈ TB)
    (hM : Met1 l y bytes maxL ret rm G As M h Qc) (hR : rm.cells = 0 ∧ rm.slots = 0 ∧ rm.frames + 1 ≤ R.frames ∧ 8 + (maxL + 11) + rm.locals ≤ R.locals ∧ cells ≤ R.cells ∧ slots ≤ R.slots) (hn : As.length = n) (hsz : ls.size = nL) (hW : (rest.map fun v => v.category).sum ≤ 8) (hdg : decode cc pc = .ok (.invokestatic index, 3)) :
    RunT p l e R s m args below meth c H locs cells slots G pc ls (As.reverse ++ rest) rest (Qc As.toArray) :=
  va_runSN (As := As) (host := host) C hM ⟨⟨⟨hR.1, hR.2.1, hR.2.2.1, hR.2.2.2.1, x_pay C.2.2.2.2 Y.1, List.mem_singleton_self _⟩, C.2.2.2.2 _ Y.1, C.2.2.2.2 _ Y.2.2.1, Y.2.2.2.1, x_parn Y.2.2.2.2, C.2.2.2.2 _ hl⟩, C.2.2.2.2 _ Y.2.1, trivial⟩ ⟨PreM.blind, x_pre hE hP hS _⟩ rfl hn hsz rfl (lv_room hW) hdg ⟨hR.2.2.2.2.1, hR.2.2.2.2.2⟩
variable {st : List Value} {a : Array Value}
theorem x_ci {P : Int32 → Mem → Int64 → Prop} (hr : RunT p l e R s m args below meth c H locs cells slots G pc ls st rest (QI G P a)) (hS : va_S (Aw G) s.heap H locs)
    (k : ∀ (r : Int32) (M1 : Mem) (h1 : Int64) (H1 : Heap) (locs1 : List Loc), P r M1 h1 → va_P G.1 vwCl (wl G M1 h1) H1 → va_S (Aw G) s.heap H1 locs1 → W p l e R s m args below meth c H1 locs1 cells slots Q (F0 m (pc + 3) ls (.int r :: rest))) : W p l e R s m args below meth c H locs cells slots Q (F0 m pc ls st) :=
  va_calli hr hS (fun _ _ h => h) (fun _ h => h) (fun r u t H1 locs1 ht _ hp hb _ _ hS1 => k r u.1 u.2 H1 locs1 hp (by rw [← ht]; exact hb) hS1)
theorem x_cl {P : Int64 → Mem → Int64 → Prop} (hr : RunT p l e R s m args below meth c H locs cells slots G pc ls st rest (QL G P a)) (hS : va_S (Aw G) s.heap H locs)
    (k : ∀ (r : Int64) (M1 : Mem) (h1 : Int64) (H1 : Heap) (locs1 : List Loc), P r M1 h1 → va_P G.1 vwCl (wl G M1 h1) H1 → va_S (Aw G) s.heap H1 locs1 → W p l e R s m args below meth c H1 locs1 cells slots Q (F0 m (pc + 3) ls (.long r :: rest))) : W p l e R s m args below meth c H locs cells slots Q (F0 m pc ls st) :=
  va_calll hr hS (fun _ _ h => h) (fun _ h => h) (fun r u t H1 locs1 ht _ hp hb _ _ hS1 => k r u.1 u.2 H1 locs1 hp (by rw [← ht]; exact hb) hS1)
theorem x_cv {P : Mem → Int64 → Prop} (hr : RunT p l e R s m args below meth c H locs cells slots G pc ls st rest (QV G P a)) (hS : va_S (Aw G) s.heap H locs)
    (k : ∀ (M1 : Mem) (h1 : Int64) (H1 : Heap) (locs1 : List Loc), P M1 h1 → va_P G.1 vwCl (wl G M1 h1) H1 → va_S (Aw G) s.heap H1 locs1 → W p l e R s m args below meth c H1 locs1 cells slots Q (F0 m (pc + 3) ls rest)) : W p l e R s m args below meth c H locs cells slots Q (F0 m pc ls st) :=
  va_callv hr hS (fun _ _ h => h) (fun _ h => h) (fun u t H1 locs1 ht _ hp hb _ _ hS1 => k u.1 u.2 H1 locs1 hp (by rw [← ht]; exact hb) hS1)
theorem x_cr {q : Nat} (hr : RunT p l e R s m args below meth c H locs cells slots G pc ls st rest (QR G q M h a)) (hS : va_S (Aw G) s.heap H locs)
    (k : ∀ (H1 : Heap) (locs1 : List Loc), va_P G.1 vwCl (wl G M h) H1 → va_S (Aw G) s.heap H1 locs1 → W p l e R s m args below meth c H1 locs1 cells slots Q (F0 m (pc + 3) ls (.ref (xa G q) :: rest))) : W p l e R s m args below meth c H locs cells slots Q (F0 m pc ls st) := by
  refine va_callr hr hS (fun _ _ h => h) (fun _ h => h) (fun u a t H1 locs1 ht _ hp hb _ _ hS1 => ?_)
  obtain ⟨rfl, hb⟩ := hb
  exact k H1 locs1 (by rw [← ht]; exact hb) hS1
/-! ends -/
theorem x_iret {P : Int32 → Mem → Int64 → Prop} (C : CallFix p m c cc nL s args TB own) (hr : meth.sig.returnType = some .int) (hk : meth.locks = false) {v : Int32} (hp : P v M h) (hP : va_P G.1 vwCl (wl G M h) H) (hS : va_S (Aw G) s.heap H locs) (hdg : decode cc pc = .ok (.ireturn, 1)) :
    W p l e R s m args below meth c H locs cells slots (MQ below (QI G P) args s cells slots (Aw G)) (F0 m pc ls [.int v]) :=
  W.iret C.1 C.2.1 hr (fun t ht _ => ⟨⟨v, (M, h), rfl, hp, vP_t ht hP⟩, hS.F ht⟩) hS.2.2 hdg (hlocks := hk)
theorem x_zret {P : Int32 → Mem → Int64 → Prop} (C : CallFix p m c cc nL s args TB own) (hr : meth.sig.returnType = some .boolean) (hk : meth.locks = false) {v : Bool} (hp : P (bI v) M h) (hP : va_P G.1 vwCl (wl G M h) H) (hS : va_S (Aw G) s.heap H locs) (hdg : decode cc pc = .ok (.ireturn, 1)) :
    W p l e R s m args below meth c H locs cells slots (MQ below (QI G P) args s cells slots (Aw G)) (F0 m pc ls [.int (bI v)]) :=
  W.zret C.1 C.2.1 hr (bI_n v) (fun t ht _ => ⟨⟨bI v, (M, h), rfl, hp, vP_t ht hP⟩, hS.F ht⟩) hS.2.2 hdg (hlocks := hk)
theorem x_lret {P : Int64 → Mem → Int64 → Prop} (C : CallFix p m c cc nL s args TB own) (hr : meth.sig.returnType = some .long) (hk : meth.locks = false) {v : Int64} (hp : P v M h) (hP : va_P G.1 vwCl (wl G M h) H) (hS : va_S (Aw G) s.heap H locs) (hdg : decode cc pc = .ok (.lreturn, 1)) :
    W p l e R s m args below meth c H locs cells slots (MQ below (QL G P) args s cells slots (Aw G)) (F0 m pc ls [.long v]) :=
  W.lret C.1 C.2.1 hr (fun t ht _ => ⟨⟨v, (M, h), rfl, hp, vP_t ht hP⟩, hS.F ht⟩) hS.2.2 hdg (hlocks := hk)
theorem x_vret {P : Mem → Int64 → Prop} (C : CallFix p m c cc nL s args TB own) (hr : meth.sig.returnType = none) (hk : meth.locks = false) (hp : P M h) (hP : va_P G.1 vwCl (wl G M h) H) (hS : va_S (Aw G) s.heap H locs) (hdg : decode cc pc = .ok (.return_, 1)) :
    W p l e R s m args below meth c H locs cells slots (MQ below (QV G P) args s cells slots (Aw G)) (F0 m pc ls []) :=
  W.vret C.1 C.2.1 hr (fun t ht _ => ⟨⟨(M, h), rfl, hp, vP_t ht hP⟩, hS.F ht⟩) hS.2.2 hdg (hlocks := hk)
end XR
