/-! the constructors: a heap that grows by cells in a row from n0 on -/
def gw (n0 : Nat) (w : List va_E) : va_W := w.mapIdx (fun j e => (n0 + j, e))
theorem gw_at {n0 j : Nat} {w : List va_E} {e : va_E} (h : w[j]? = some e) : (gw n0 w)[j]? = some (n0 + j, e) := by simp [gw, h]
theorem gw_inv {n0 j : Nat} {w : List va_E} {q : Nat × va_E} (h : (gw n0 w)[j]? = some q) : ∃ e, w[j]? = some e ∧ q = (n0 + j, e) := by
  simp only [gw, List.getElem?_mapIdx, Option.map_eq_some_iff] at h
  obtain ⟨e, h1, h2⟩ := h
  exact ⟨e, h1, h2.symm⟩
theorem gw_set {n0 j : Nat} {w : List va_E} {e : va_E} : (gw n0 w).set j (n0 + j, e) = gw n0 (w.set j e) := by
  apply List.ext_getElem?
  intro i
  simp only [gw, List.getElem?_set, List.getElem?_mapIdx, List.length_mapIdx]
  by_cases h : j = i
  · subst h
    by_cases hl : j < w.length <;> simp [hl]
  · simp [h]
abbrev AN (n0 : Nat) : Nat → Prop := fun q => n0 ≤ q
theorem gw_D (n0 : Nat) (w : List va_E) : va_D (AN n0) (gw n0 w) := by
  refine ⟨fun i j x y hi hj hxy => ?_, fun k q hk => ?_⟩
  · obtain ⟨s, h1, rfl⟩ := gw_inv hi
    obtain ⟨t, h2, rfl⟩ := gw_inv hj
    have : n0 + i = n0 + j := hxy
    omega
  · obtain ⟨s, h1, rfl⟩ := gw_inv hk
    exact Nat.le_add_right _ _
def GP (G : GG) (n0 : Nat) (w : List va_E) (H : Heap) : Prop := va_P G.1 vwCl (gw n0 w) H
theorem W_sz {p : Program} {l : Launch} {e : Env} {R : Room} {s : State} {m : MethodId} {args : Array Value} {below : List Frame} {meth : Method} {c : Code} {H : Heap} {locs : List Loc} {cells slots : Nat} {Q : State → Prop} {g : JFrame} (k : H.size ≤ s.heap.size + cells → W p l e R s m args below meth c H locs cells slots Q g) : W p l e R s m args below meth c H locs cells slots Q g := fun T hT X => k (by rw [← hT]; exact X.heapSize) T hT X
theorem GP.size {G : GG} {n0 : Nat} {w : List va_E} {H H0 : Heap} {A : Nat → Prop} {locs : List Loc} {cells : Nat} (h : GP G n0 w H) (hS : va_S A H0 H locs) (hcnt : H0.size + cells = n0 + w.length) (hne : w ≠ [] ∨ cells = 0) (hsz : H.size ≤ H0.size + cells) : H.size = n0 + w.length := by
  refine Nat.le_antisymm (by omega) ?_
  rcases hne with hne | hne
  · have hl : w.length - 1 < w.length := by
      have := List.length_pos_iff.mpr hne
      omega
    have h1 := (h (w.length - 1) _ (gw_at (List.getElem?_eq_getElem hl))).lt
    have h2 : n0 + (w.length - 1) < H.size := h1
    omega
  · have := hS.1
    omega
theorem GP.push {G : GG} {n0 : Nat} {w : List va_E} {e : va_E} {H H1 : Heap} (h : GP G n0 w H) (hz : H.size = n0 + w.length) (o1 : ∀ q, q < H.size → H1[q]? = H[q]?) (he : va_at G.1 vwCl (H.size, e) H1) : GP G n0 (w ++ [e]) H1 := by
  intro j q hq
  obtain ⟨x, hx, rfl⟩ := gw_inv hq
  by_cases hj : j < w.length
  · rw [List.getElem?_append_left hj] at hx
    have h2 := h j _ (gw_at hx)
    exact h2.kept (o1 _ h2.lt)
  · rw [List.getElem?_append_right (by omega)] at hx
    have hz2 : j - w.length < 1 := (List.getElem?_eq_some_iff.mp hx).1
    have hj0 : j = w.length := by omega
    subst hj0
    rw [Nat.sub_self] at hx
    cases hx
    rw [← hz]
    exact he
def EnvC (G : GG) (U : State) : Prop := va_K G.1 vwCl (tysG G) U ∧ EnvW U ∧ va_AO "EdgesFit$Law" U
theorem EnvC.to {G : GG} {s U : State} (h : EnvC G s) (hW : s.WarmedH U.vm) : EnvC G U := ⟨va_K.moved hW.alike h.1, h.2.1.to hW, va_AO.moved hW.alike h.2.2⟩
theorem ga_at (es xs : List va_E) (j : Nat) {k : Nat} (hk : es.length = k) : (es ++ xs)[k + j]? = xs[j]? := by rw [List.getElem?_append_right (by omega)]; congr 1; omega
theorem ga_set (es xs : List va_E) (j : Nat) (e : va_E) {k : Nat} (hk : es.length = k) : (es ++ xs).set (k + j) e = es ++ xs.set j e := by
  rw [List.set_append_right _ _ (by omega)]; congr 2; omega
theorem ga_len (es xs : List va_E) {k j : Nat} (hk : es.length = k) (hj : xs.length = j) : (es ++ xs).length = k + j := by rw [List.length_append, hk, hj]
section GR
variable {p : Program} {l : Launch} {e : Env} {R : Room} {s : State} {m : MethodId} {args : Array Value} {below : List Frame} {meth : Method} {c : Code} {H : Heap} {locs : List Loc} {cells slots : Nat} {Q : State → Prop}
variable {cc : ByteArray} {pc : Nat} {ls : Array Slot} {rest : List Value} {G : GG} {nL n0 index : Nat} {own : String} {w w' : List va_E}
abbrev WW (p : Program) (l : Launch) (e : Env) (R : Room) (s : State) (m : MethodId) (args : Array Value) (below : List Frame) (meth : Method) (c : Code) (H : Heap) (locs : List Loc) (cells slots : Nat) (Q : State → Prop) (pc : Nat) (ls : Array Slot) (st : List Value) : Prop := W p l e R s m args below meth c H locs cells slots Q (F0 m pc ls st)
theorem g_new (C : CallFix p m c cc nL s args TB own) (hE : EnvC G s) (hW : GP G n0 w H) (hS : va_S (AN n0) s.heap H locs) (hcnt : s.heap.size + cells = n0 + w.length) (hne : w ≠ [] ∨ cells = 0) {ci N : Nat} {Cn : String} {T : u_T} {ty : Nat → FieldType} {fs : List Value} (hcl : Cond.classLink own index Cn ∈ TB) (hins : Cond.instantiable Cn N ∈ TB) (hini : Cond.initialized Cn ∈ TB) (hc : vwCl[ci]? = some (Cn, T, N)) (hin : ∀ w ∈ u_ws Cn T N, w ∈ TB) (hty : ∀ k, k < N → parseFieldDescriptor (T k).2.2.1 = some (ty k)) (hfs : ∀ j, j < N → defaultValue (ty j) = vp_V fs j) (hcells : cells + 1 ≤ R.cells) (hslots : slots + N ≤ R.slots) (hw' : w ++ [.inr (ci, fs)] = w') {a : Nat} (ha : n0 + w.length = a) (hdg : decode cc pc = .ok (.new index, 3))
    (kk : ∀ H1 : Heap, GP G n0 w' H1 → va_S (AN n0) s.heap H1 locs → WW p l e R s m args below meth c H1 locs (cells + 1) (slots + N) Q (pc + 3) ls (.ref a :: rest)) : WW p l e R s m args below meth c H locs cells slots Q pc ls rest := by
  subst hw'
  subst ha
  refine W_sz fun hsz => ?_
  have hz := hW.size hS hcnt hne hsz
  have hKn := hE.1.1 ci _ hc
  refine W.newcK C.1 C.2.1 C.2.2.2.1 (C.2.2.2.2 _ hcl) (C.2.2.2.2 _ hins) (C.2.2.2.2 _ hini) rfl hdg hcells hslots hKn.2.1 rfl fun H1 kC hkC e1 z1 o1 => ?_
  rw [hz]
  refine kk H1 (hW.push hz o1 ⟨_, hc, (u_born ty C.2.2.2.2 hin hKn hkC e1 hty).to hfs⟩) ⟨Nat.le_trans hS.1 (by omega), fun x h1 h2 => (o1 x (Nat.lt_of_lt_of_le h1 hS.1)).trans (hS.2.1 x h1 h2), hS.2.2⟩
theorem g_newa (C : CallFix p m c cc nL s args TB own) (hE : EnvC G s) (hW : GP G n0 w H) (hS : va_S (AN n0) s.heap H locs) (hcnt : s.heap.size + cells = n0 + w.length) (hne : w ≠ [] ∨ cells = 0) (harr : Cond.arrayClass .int ∈ TB) {n : Int32} {N : Nat} (hn : ¬ n < 0) (hN : n.toNatClampNeg = N) (hbytes : N * 4 ≤ 536870912) (hcells : cells + 1 ≤ R.cells) (hslots : slots + N ≤ R.slots) (hw' : w ++ [.inl (gI G, N, .inl (fun _ => 0))] = w') {a : Nat} (ha : n0 + w.length = a) (hdg : decode cc pc = .ok (.newarray .int, 2))
    (kk : ∀ H1 : Heap, GP G n0 w' H1 → va_S (AN n0) s.heap H1 locs → WW p l e R s m args below meth c H1 locs (cells + 1) (slots + N) Q (pc + 2) ls (.ref a :: rest)) : WW p l e R s m args below meth c H locs cells slots Q pc ls (.int n :: rest) := by
  subst hw'
  subst ha
  refine W_sz fun hsz => ?_
  have hz := hW.size hS hcnt hne hsz
  refine va_newaK (atype := .int) C.1 C.2.1 (C.2.2.2.2 _ harr) rfl hdg rfl hn hN hbytes hcells hslots rfl fun H1 cA e1 z1 o1 hAr hNm => ?_
  have h1 : s.vm.findClass ("[" ++ (FieldType.int).toString) = some (gI G) := (hE.1.2 0 _ rfl).2
  have h2 : cA = gI G := Option.some.inj (hNm.symm.trans h1)
  subst h2
  rw [hz]
  exact kk H1 (hW.push hz o1 e1) ⟨Nat.le_trans hS.1 (by omega), fun x h1 h2 => (o1 x (Nat.lt_of_lt_of_le h1 hS.1)).trans (hS.2.1 x h1 h2), hS.2.2⟩
theorem g_newz (C : CallFix p m c cc nL s args TB own) (hE : EnvC G s) (hW : GP G n0 w H) (hS : va_S (AN n0) s.heap H locs) (hcnt : s.heap.size + cells = n0 + w.length) (hne : w ≠ [] ∨ cells = 0) (harr : Cond.arrayClass .boolean ∈ TB) {n : Int32} {N : Nat} (hn : ¬ n < 0) (hN : n.toNatClampNeg = N) (hbytes : N * 4 ≤ 536870912) (hcells : cells + 1 ≤ R.cells) (hslots : slots + N ≤ R.slots) (hw' : w ++ [.inl (gZ G, N, .inl (fun _ => 0))] = w') {a : Nat} (ha : n0 + w.length = a) (hdg : decode cc pc = .ok (.newarray .boolean, 2))
    (kk : ∀ H1 : Heap, GP G n0 w' H1 → va_S (AN n0) s.heap H1 locs → WW p l e R s m args below meth c H1 locs (cells + 1) (slots + N) Q (pc + 2) ls (.ref a :: rest)) : WW p l e R s m args below meth c H locs cells slots Q pc ls (.int n :: rest) := by
  subst hw'
  subst ha
  refine W_sz fun hsz => ?_
  have hz := hW.size hS hcnt hne hsz
  refine va_newaK (atype := .boolean) C.1 C.2.1 (C.2.2.2.2 _ harr) rfl hdg rfl hn hN (by have : componentBytes (newarray.typeOf .boolean) = 1 := rfl; rw [this]; omega) hcells hslots rfl fun H1 cA e1 z1 o1 hAr hNm => ?_
  have h1 : s.vm.findClass ("[" ++ (FieldType.boolean).toString) = some (gZ G) := (hE.1.2 1 _ rfl).2
  have h2 : cA = gZ G := Option.some.inj (hNm.symm.trans h1)
  subst h2
  rw [hz]
  exact kk H1 (hW.push hz o1 e1) ⟨Nat.le_trans hS.1 (by omega), fun x h1 h2 => (o1 x (Nat.lt_of_lt_of_le h1 hS.1)).trans (hS.2.1 x h1 h2), hS.2.2⟩
theorem g_anew (C : CallFix p m c cc nL s args TB own) (hE : EnvC G s) (hW : GP G n0 w H) (hS : va_S (AN n0) s.heap H locs) (hcnt : s.heap.size + cells = n0 + w.length) (hne : w ≠ [] ∨ cells = 0) (hcl : Cond.classLink own index "EdgesFit$Law" ∈ TB) {n : Int32} {N : Nat} (hn : ¬ n < 0) (hN : n.toNatClampNeg = N) (hbytes : N * 4 ≤ 536870912) (hcells : cells + 1 ≤ R.cells) (hslots : slots + N ≤ R.slots) (hw' : w ++ [.inl (gL G, N, .inr (.inr (.inr (.inr (fun _ => none)))))] = w') {a : Nat} (ha : n0 + w.length = a) (hdg : decode cc pc = .ok (.anewarray index, 3))
    (kk : ∀ H1 : Heap, GP G n0 w' H1 → va_S (AN n0) s.heap H1 locs → WW p l e R s m args below meth c H1 locs (cells + 1) (slots + N) Q (pc + 3) ls (.ref a :: rest)) : WW p l e R s m args below meth c H locs cells slots Q pc ls (.int n :: rest) := by
  subst hw'
  subst ha
  refine W_sz fun hsz => ?_
  have hz := hW.size hS hcnt hne hsz
  subst hN
  refine W.anew C.1 C.2.1 C.2.2.2.1 (C.2.2.2.2 _ hcl) (va_AO.use hE.2.2) rfl hdg rfl hn hbytes hcells hslots fun cA kA comp f1 f2 f3 f4 => ?_
  generalize hH1 : H.push ({ cls := cA, slots := Array.replicate n.toNatClampNeg .null, vm := .none } : Cell) = H1
  have z1 : H1.size = H.size + 1 := by rw [← hH1, Array.size_push]
  have e1 : H1[H.size]? = some (arrV cA n.toNatClampNeg (fun _ => .null)) := by rw [← hH1, Array.getElem?_push_size, ← arrV_new]
  have o1 : ∀ q : Nat, q < H.size → H1[q]? = H[q]? := fun q hq => by rw [← hH1, Array.getElem?_push, if_neg (Nat.ne_of_lt hq)]
  obtain ⟨-, kA2, comp2, -, -, -, h1⟩ := hE.1.2 2 _ rfl
  have h2 : cA = gL G := Option.some.inj (f1.symm.trans h1)
  subst h2
  rw [hz]
  exact kk H1 (hW.push hz o1 e1) ⟨Nat.le_trans hS.1 (by omega), fun x h1 h2 => (o1 x (Nat.lt_of_lt_of_le h1 hS.1)).trans (hS.2.1 x h1 h2), hS.2.2⟩
theorem g_putF (C : CallFix p m c cc nL s args TB own) (hE : EnvC G s) (hW : GP G n0 w H) (hS : va_S (AN n0) s.heap H locs) (hin2 : meth.name = "<init>") {j ci N k : Nat} {fs : List Value} {Cn : String} {T : u_T} {ty0 : Nat → FieldType} {ty : FieldType} {v : Value} (he : w[j]? = some (.inr (ci, fs))) (hc : vwCl[ci]? = some (Cn, T, N)) (hin : ∀ w ∈ u_ws Cn T N, w ∈ TB) (hty : ∀ k, k < N → parseFieldDescriptor (T k).2.2.1 = some (ty0 k)) (hnm : ∀ a, a < N → ∀ b, b < N → a ≠ b → (T a).2.1 ≠ (T b).2.1) (hk : k < N) (hl : Cond.fieldLink own index (T k).1 (T k).2.1 (T k).2.2.1 ∈ TB) (hfin : (T k).2.2.2 = true) (hdecl : (T k).1 = own) (hd : parseFieldDescriptor (T k).2.2.1 = some ty) (hn : narrow ty v = v) (hfit : fits ty v = true) (hlen : k < fs.length) (hw' : w.set j (.inr (ci, fs.set k v)) = w') (hdg : decode cc pc = .ok (.putfield index, 3))
    (kk : ∀ (H1 : Heap) (locs1 : List Loc), GP G n0 w' H1 → va_S (AN n0) s.heap H1 locs1 → WW p l e R s m args below meth c H1 locs1 cells slots Q (pc + 3) ls rest) : WW p l e R s m args below meth c H locs cells slots Q pc ls (v :: .ref (n0 + j) :: rest) := by
  subst hw'
  exact va_putF (D := G.1) (v := v) C.1 C.2.1 C.2.2.2.2 hin ty0 hty hnm C.2.2.2.1 hE.1 hW (gw_D n0 w) hS j (gw_at he) hc k hk (C.2.2.2.2 _ hl) (fun _ h => h) hfin hin2 hdecl hd hn hfit hlen hdg (fun H1 locs1 g1 _ g3 => kk H1 locs1 (by unfold GP; rw [← gw_set]; exact g1) g3)
theorem g_put (C : CallFix p m c cc nL s args TB own) (hE : EnvC G s) (hW : GP G n0 w H) (hS : va_S (AN n0) s.heap H locs) {j ci N k : Nat} {fs : List Value} {Cn : String} {T : u_T} {ty0 : Nat → FieldType} {ty : FieldType} {v : Value} (he : w[j]? = some (.inr (ci, fs))) (hc : vwCl[ci]? = some (Cn, T, N)) (hin : ∀ w ∈ u_ws Cn T N, w ∈ TB) (hty : ∀ k, k < N → parseFieldDescriptor (T k).2.2.1 = some (ty0 k)) (hnm : ∀ a, a < N → ∀ b, b < N → a ≠ b → (T a).2.1 ≠ (T b).2.1) (hk : k < N) (hl : Cond.fieldLink own index (T k).1 (T k).2.1 (T k).2.2.1 ∈ TB) (hfin : (T k).2.2.2 = false) (hd : parseFieldDescriptor (T k).2.2.1 = some ty) (hn : narrow ty v = v) (hfit : fits ty v = true) (hlen : k < fs.length) (hw' : w.set j (.inr (ci, fs.set k v)) = w') (hdg : decode cc pc = .ok (.putfield index, 3))
    (kk : ∀ (H1 : Heap) (locs1 : List Loc), GP G n0 w' H1 → va_S (AN n0) s.heap H1 locs1 → WW p l e R s m args below meth c H1 locs1 cells slots Q (pc + 3) ls rest) : WW p l e R s m args below meth c H locs cells slots Q pc ls (v :: .ref (n0 + j) :: rest) := by
  subst hw'
  exact va_put (D := G.1) (v := v) C.1 C.2.1 C.2.2.2.2 hin ty0 hty hnm C.2.2.2.1 hE.1 hW (gw_D n0 w) hS j (gw_at he) hc k hk (C.2.2.2.2 _ hl) (fun _ h => h) hfin hd hn hfit hlen hdg (fun H1 locs1 g1 _ g3 => kk H1 locs1 (by unfold GP; rw [← gw_set]; exact g1) g3)
theorem g_get (C : CallFix p m c cc nL s args TB own) (hE : EnvC G s) (hW : GP G n0 w H) {j ci N k : Nat} {fs : List Value} {Cn : String} {T : u_T} {v : Value} (he : w[j]? = some (.inr (ci, fs))) (hc : vwCl[ci]? = some (Cn, T, N)) (hin : ∀ w ∈ u_ws Cn T N, w ∈ TB) (hk : k < N) (hl : Cond.fieldLink own index (T k).1 (T k).2.1 (T k).2.2.1 ∈ TB) (hv : fs[k]? = some v) (hdg : decode cc pc = .ok (.getfield index, 3))
    (kk : WW p l e R s m args below meth c H locs cells slots Q (pc + 3) ls (v :: rest)) : WW p l e R s m args below meth c H locs cells slots Q pc ls (.ref (n0 + j) :: rest) :=
  va_get (D := G.1) C.1 C.2.1 C.2.2.2.2 hin C.2.2.2.1 hE.1 hW j (gw_at he) hc k hk (C.2.2.2.2 _ hl) (fun _ h => h) hv hdg kk
theorem g_aast (C : CallFix p m c cc nL s args TB own) (hE : EnvC G s) (hW : GP G n0 w H) (hS : va_S (AN n0) s.heap H locs) {j jv n : Nat} {vs : List Value} {f : Nat → Option Nat} (ha : w[j]? = some (.inl (gL G, n, .inr (.inr (.inr (.inr f)))))) (hv : w[jv]? = some (.inr (4, vs))) {i : Int32} (hin : vp_in i n) (hw' : w.set j (.inl (gL G, n, .inr (.inr (.inr (.inr (va_up f i.toNatClampNeg (some (n0 + jv)))))))) = w') (hdg : decode cc pc = .ok (.aastore, 1))
    (kk : ∀ (H1 : Heap) (locs1 : List Loc), GP G n0 w' H1 → va_S (AN n0) s.heap H1 locs1 → WW p l e R s m args below meth c H1 locs1 cells slots Q (pc + 1) ls rest) : WW p l e R s m args below meth c H locs cells slots Q pc ls (.ref (n0 + jv) :: .int i :: .ref (n0 + j) :: rest) := by
  subst hw'
  exact va_astq C.1 C.2.1 hE.1 hW (gw_D n0 w) hS j 2 jv 4 (r := (RX4, TX4, 10)) (gw_at ha) rfl (gw_at hv) rfl hin hdg (fun H1 locs1 g1 _ g3 => kk H1 locs1 (by unfold GP; rw [← gw_set]; exact g1) g3)
theorem g_iast (C : CallFix p m c cc nL s args TB own) (hE : EnvC G s) (hW : GP G n0 w H) (hS : va_S (AN n0) s.heap H locs) {j n : Nat} {f : Nat → Int32} (ha : w[j]? = some (.inl (gI G, n, .inl f))) {i x : Int32} (hin : vp_in i n) (hw' : w.set j (.inl (gI G, n, .inl (upd f i.toNatClampNeg x))) = w') (hdg : decode cc pc = .ok (.iastore, 1))
    (kk : ∀ (H1 : Heap) (locs1 : List Loc), GP G n0 w' H1 → va_S (AN n0) s.heap H1 locs1 → WW p l e R s m args below meth c H1 locs1 cells slots Q (pc + 1) ls rest) : WW p l e R s m args below meth c H locs cells slots Q pc ls (.int x :: .int i :: .ref (n0 + j) :: rest) := by
  subst hw'
  exact va_iast C.1 C.2.1 hE.1 hW (gw_D n0 w) hS j 0 (gw_at ha) rfl hin hdg (fun H1 locs1 g1 _ g3 => kk H1 locs1 (by unfold GP; rw [← gw_set]; exact g1) g3)
theorem g_obj (C : CallFix p m c cc nL s args TB own) (hl : Cond.methodLink own index Lib.objectInit ∈ TB) (hi : Cond.instanceMethod Lib.objectInit ∈ TB) (ho : Cond.code Lib.objectInit ⟨#[0xb1]⟩ 1 none ∈ TB) (hsz : ls.size = nL) (hR : 1 ≤ R.frames ∧ 20 ≤ R.locals) (hW : (rest.map fun v => v.category).sum ≤ 8) {a : Nat} (hdg : decode cc pc = .ok (.invokespecial index, 3))
    (kk : WW p l e R s m args below meth c H locs cells slots Q (pc + 3) ls rest) : WW p l e R s m args below meth c H locs cells slots Q pc ls (.ref a :: rest) :=
  W.objInit C.1 C.2.1 C.2.2.2.1 (C.2.2.2.2 _ hl) (C.2.2.2.2 _ hi) (C.2.2.2.2 _ ho) rfl (hsz.trans C.2.2.1.symm) rfl hdg hR.1 (by have := lv_room (m := m) (pc := pc) (ls := ls) (rest := .ref a :: rest) hW; have h2 := hR.2; omega) kk
theorem g_fill (C : CallFix p m c cc nL s args TB own) (hE : EnvC G s) (hW : GP G n0 w H) (hS : va_S (AN n0) s.heap H locs) (hsz : ls.size = nL) (hl : Cond.methodLink own index yJ7_fill_53178 ∈ TB) {j n : Nat} {f : Nat → Int32} (ha : w[j]? = some (.inl (gI G, n, .inl f))) (hn : n < 2 ^ 31) (hR : 1 ≤ R.frames ∧ 23 ≤ R.locals ∧ cells ≤ R.cells ∧ slots ≤ R.slots) (hWd : (rest.map fun v => v.category).sum ≤ 8) {v : Int32} (hw' : w.set j (.inl (gI G, n, .inl (flN f v n))) = w') (hdg : decode cc pc = .ok (.invokestatic index, 3))
    (kk : ∀ (H1 : Heap) (locs1 : List Loc), GP G n0 w' H1 → va_S (AN n0) s.heap H1 locs1 → WW p l e R s m args below meth c H1 locs1 cells slots Q (pc + 3) ls rest) : WW p l e R s m args below meth c H locs cells slots Q pc ls (.int v :: .ref (n0 + j) :: rest) := by
  subst hw'
  have hP1 : va_P G.1 vwCl [(n0 + j, .inl (gI G, n, .inl f))] H := by
    intro k x hk
    have h1 := (List.getElem?_eq_some_iff.mp hk).1
    simp at h1
    subst h1
    simp at hk
    subst hk
    exact hW j _ (gw_at ha)
  have hrun := va_runS (As := [.ref (n0 + j), .int v]) (rest := rest) (g := F0 m pc ls (.int v :: .ref (n0 + j) :: rest)) (e := e) (below := below) (meth := meth) (locs := locs) (cells := cells) (slots := slots) (R := R) (H := H) C (c_fill (l := l) (D := G.1) (tys := tysG G) (a := n0 + j) (cA := gI G) (n := n) (f := f) (v := v) (t0 := 0) rfl hn)
    ⟨⟨rfl, rfl, hR.1, hR.2.1, x_pay C.2.2.2.2 ykJ7_fill_53178.1, List.mem_singleton_self _, C.2.2.2.2 _ ykJ7_fill_53178.1, C.2.2.2.2 _ ykJ7_fill_53178.2.2.1, ykJ7_fill_53178.2.2.2.1, x_parn ykJ7_fill_53178.2.2.2.2, C.2.2.2.2 _ hl⟩, C.2.2.2.2 _ ykJ7_fill_53178.2.1⟩
    ⟨fun a U g mk q => ⟨q.1, va_K.moved (u := U) (U := U.calling g mk a) (Vm.Alike.refl U.vm) q.2.1, q.2.2⟩, fun U hU hW => ⟨rfl, va_K.moved hW.alike hE.1, by rw [hU]; exact hP1⟩⟩ rfl rfl hsz rfl (lv_room hWd) hdg ⟨hR.2.2.1, hR.2.2.2⟩
  refine va_callv hrun hS (fun r _ h => by show n0 ≤ r; rw [h]; exact Nat.le_add_right _ _) (fun r h => by show n0 ≤ r; rw [h]; exact Nat.le_add_right _ _) (fun u t H1 locs1 ht _ hp hb _ hk1 hS1 => ?_)
  refine kk H1 locs1 ?_ hS1
  intro i x hi
  obtain ⟨ei, hei, rfl⟩ := gw_inv hi
  by_cases hij : i = j
  · subst hij
    rw [List.getElem?_set_self (List.getElem?_eq_some_iff.mp ha).1] at hei
    cases hei
    have h2 := hb 0 _ rfl
    rw [ht] at h2
    exact h2
  · rw [List.getElem?_set_ne (Ne.symm hij)] at hei
    have h2 := hW i _ (gw_at hei)
    refine h2.kept (hk1 _ h2.lt (fun h9 => hij ?_))
    have : n0 + i = n0 + j := h9
    omega
/-! a constructor's contract -/
abbrev MetC (l : Launch) (y : MethodName) (bytes : ByteArray) (maxL : Nat) (rm : Room) (G : GG) (n0 : Nat) (av : List Value) (w w' : List va_E) (mc ms : Nat) : Prop := Met l y [.code y bytes maxL none] rm (va_Pc av (fun U => EnvC G U ∧ GP G n0 w U.heap ∧ U.heap.size = n0 + w.length)) (va_Qv (S := Unit) (fun _ => True) (fun _ t => GP G n0 w' t.heap) (AN n0)) mc ms (AN n0)
def YI (y : MethodName) (bytes : ByteArray) (maxL n : Nat) : Prop := Cond.code y bytes maxL none ∈ TB ∧ Cond.instanceMethod y ∈ TB ∧ Cond.initialized y.cls ∈ TB ∧ (y.cls ≠ "java/lang/invoke/MethodHandle" ∧ y.cls ≠ "java/lang/invoke/VarHandle") ∧ (parseMethodDescriptor y.desc).map (fun d => d.parameters.length) = some n ∧ y.name = "<init>"
variable {y : MethodName} {bytes : ByteArray} {maxL n mc ms : Nat} {rm : Room} {As : List Value}
theorem g_pre (hE : EnvC G s) (hW : GP G n0 w H) (hz : H.size = n0 + w.length) (av : List Value) : PreS s H (va_Pc av (fun U => EnvC G U ∧ GP G n0 w U.heap ∧ U.heap.size = n0 + w.length)) av := by
  refine ⟨fun a U g mk q => ⟨q.1, q.2.1.to (State.WarmedH.refl U), q.2.2⟩, fun U hU hWm => ⟨rfl, hE.to hWm, by rw [hU]; exact hW, by rw [hU]; exact hz⟩⟩
theorem g_call (C : CallFix p m c cc nL s args TB own) (hE : EnvC G s) (hW : GP G n0 w H) (hS : va_S (AN n0) s.heap H locs) (hcnt : s.heap.size + cells = n0 + w.length) (hne : w ≠ [] ∨ cells = 0) (Y : YI y bytes maxL n) (hl : Cond.methodLink own index y ∈ TB) {b : Nat} (hM : MetC l y bytes maxL rm G n0 (.ref b :: As) w w' mc ms) (hR : rm.cells = mc ∧ rm.slots = ms ∧ rm.frames + 1 ≤ R.frames ∧ 8 + (maxL + 11) + rm.locals ≤ R.locals ∧ cells + mc ≤ R.cells ∧ slots + ms ≤ R.slots) (hn : As.length = n) (hsz : ls.size = nL) (hWd : (rest.map fun v => v.category).sum ≤ 8) {st : List Value} (hst : st = As.reverse ++ .ref b :: rest) (hdg : decode cc pc = .ok (.invokespecial index, 3))
    (kk : ∀ (H1 : Heap) (locs1 : List Loc), GP G n0 w' H1 → va_S (AN n0) s.heap H1 locs1 → WW p l e R s m args below meth c H1 locs1 (cells + mc) (slots + ms) Q (pc + 3) ls rest) : WW p l e R s m args below meth c H locs cells slots Q pc ls st := by
  subst hst
  refine W_sz fun hszz => ?_
  have hz := hW.size hS hcnt hne hszz
  have hrun := va_runI (As := As) (rest := rest) (b := b) (g := F0 m pc ls (As.reverse ++ .ref b :: rest)) (e := e) (below := below) (meth := meth) (locs := locs) (cells := cells) (slots := slots) (R := R) (H := H) C hM ⟨⟨hR.1, hR.2.1, hR.2.2.1, hR.2.2.2.1, x_pay C.2.2.2.2 Y.1, List.mem_singleton_self _, C.2.2.2.2 _ Y.1, C.2.2.2.2 _ Y.2.2.1, Y.2.2.2.1, x_parn Y.2.2.2.2.1, C.2.2.2.2 _ hl⟩, Y.2.2.2.2.2, C.2.2.2.2 _ Y.2.1⟩ (g_pre hE hW hz _) rfl hn hsz rfl (lv_room hWd) hdg ⟨hR.2.2.2.2.1, hR.2.2.2.2.2⟩
  exact va_callv hrun hS (fun _ _ h => h) (fun _ h => h) (fun u t H1 locs1 ht _ hp hb _ _ hS1 => kk H1 locs1 (by rw [← ht]; exact hb) hS1)
theorem g_callN (C : CallFix p m c cc nL s args TB own) (hE : EnvC G s) (hW : GP G n0 w H) (hS : va_S (AN n0) s.heap H locs) (hcnt : s.heap.size + cells = n0 + w.length) (hne : w ≠ [] ∨ cells = 0) (Y : YI y bytes maxL n) {host : String} (hl : Cond.methodLinkNest own index y host ∈ TB) {b : Nat} (hM : MetC l y bytes maxL rm G n0 (.ref b :: As) w w' mc ms) (hR : rm.cells = mc ∧ rm.slots = ms ∧ rm.frames + 1 ≤ R.frames ∧ 8 + (maxL + 11) + rm.locals ≤ R.locals ∧ cells + mc ≤ R.cells ∧ slots + ms ≤ R.slots) (hn : As.length = n) (hsz : ls.size = nL) (hWd : (rest.map fun v => v.category).sum ≤ 8) {st : List Value} (hst : st = As.reverse ++ .ref b :: rest) (hdg : decode cc pc = .ok (.invokespecial index, 3))
    (kk : ∀ (H1 : Heap) (locs1 : List Loc), GP G n0 w' H1 → va_S (AN n0) s.heap H1 locs1 → WW p l e R s m args below meth c H1 locs1 (cells + mc) (slots + ms) Q (pc + 3) ls rest) : WW p l e R s m args below meth c H locs cells slots Q pc ls st := by
  subst hst
  refine W_sz fun hszz => ?_
  have hz := hW.size hS hcnt hne hszz
  have hrun := va_runIN (As := As) (rest := rest) (b := b) (host := host) (g := F0 m pc ls (As.reverse ++ .ref b :: rest)) (e := e) (below := below) (meth := meth) (locs := locs) (cells := cells) (slots := slots) (R := R) (H := H) C hM ⟨⟨⟨hR.1, hR.2.1, hR.2.2.1, hR.2.2.2.1, x_pay C.2.2.2.2 Y.1, List.mem_singleton_self _⟩, C.2.2.2.2 _ Y.1, C.2.2.2.2 _ Y.2.2.1, Y.2.2.2.1, x_parn Y.2.2.2.2.1, C.2.2.2.2 _ hl⟩, Y.2.2.2.2.2, C.2.2.2.2 _ Y.2.1⟩ (g_pre hE hW hz _) rfl hn hsz rfl (lv_room hWd) hdg ⟨hR.2.2.2.2.1, hR.2.2.2.2.2⟩
  exact va_callv hrun hS (fun _ _ h => h) (fun _ h => h) (fun u t H1 locs1 ht _ hp hb _ _ hS1 => kk H1 locs1 (by rw [← ht]; exact hb) hS1)
end GR
theorem gm_start {l : Launch} {y : MethodName} {cc : ByteArray} {maxL mc ms n0 : Nat} {rm : Room} {G : GG} {av : List Value} {w w' : List va_E} (hy : plainName y.cls = true) (hyn : y.name = "<init>") (hn : (lg_sl av).length ≤ maxL)
    (body : ∀ (p : Program) (e : Env) (s : State) (m : MethodId) (args : Array Value) (below : List Frame) (meth : Method) (c : Code) (ls : Array Slot) (Q : State → Prop), CallFix p m c cc maxL s args TB y.cls → meth.name = "<init>" → EnvC G s → s.heap.size = n0 + w.length → (∀ (H : Heap) (locs : List Loc) (pc : Nat) (ls : Array Slot), GP G n0 w' H → va_S (AN n0) s.heap H locs → decode cc pc = .ok (.return_, 1) → W p l e rm s m args below meth c H locs mc ms Q (F0 m pc ls [])) → GP G n0 w s.heap → va_S (AN n0) s.heap s.heap [] → lv_has ls maxL (lv_args 0 av) →
      W p l e rm s m args below meth c s.heap [] 0 0 Q (F0 m 0 ls [])) : MetC l y cc maxL rm G n0 av w w' mc ms := by
  refine Met.ofW (cc := cc) (maxL := maxL) (ret := none) hy rfl ?_
  intro p e s m args below meth c s₁ B hml hv
  obtain ⟨rfl, hE, hP, hz⟩ := hv
  rw [lg_entry_eq]
  have hr := B.returns
  have hk := B.notSynchronized
  refine body p e s m _ below meth c _ _ ⟨B.exec, B.bytes, hml, findClass_of_methodNamed B.named, hE.2.1.at _⟩ ((name_of_methodNamed B.named B.method).1.trans hyn) hE hz ?_ hP va_S.rf (lv_entry av hn)
  intro H locs pc ls hp hS hdg
  exact W.vret B.exec B.bytes hr (fun t ht _ => ⟨⟨(), rfl, trivial, vP_t ht hp⟩, hS.F ht⟩) hS.2.2 hdg (hlocks := hk)
