theorem xj {α β : Type} {o : Option α} {k : α → Option β} {P : β → Prop} {g : Prop} (Z : α → Prop) (hf : OB (o.bind k) P) (rest : ∀ z, OB (k z) P → Z z) (br : OB o Z → g) : g := br (OB_mono (OB_bind hf) rest)
theorem it_c {S R : Type} {Wd : S → Prop} {P : R → Prop} {a : S} (h : OB (some (.inl a)) (it_P Wd P)) : Wd a := by have h1 := OB_some h; exact h1
theorem it_e {S R : Type} {Wd : S → Prop} {P : R → Prop} {a : R} (h : OB (some (.inr a)) (it_P Wd P)) : P a := by have h1 := OB_some h; exact h1
def jmax (x y : Int32) : Int32 := if x < y then y else x
def jmin (x y : Int32) : Int32 := if y < x then y else x
def jabs (x : Int32) : Int32 := if 0 ≤ x then x else 0 - x
/-! ends and starts of methods, by what they answer and write (0: nothing, 1: the memory, h: also the long) -/
def QI0 (G : GG) (M : Mem) (h : Int64) (P : Int32 → Prop) : Array Value → State → Outcome → State → Prop := va_Qi (S := Unit) (fun r _ => P r) (fun _ t => va_P G.1 vwCl (wl G M h) t.heap) (Aw G)
def QI1 (G : GG) (h : Int64) (P : Int32 × Mem → Prop) : Array Value → State → Outcome → State → Prop := va_Qi (S := Mem) (fun r u => P (r, u)) (fun u t => va_P G.1 vwCl (wl G u h) t.heap) (Aw G)
def QIh (G : GG) (P : Int32 × Mem × Int64 → Prop) : Array Value → State → Outcome → State → Prop := va_Qi (S := Mem × Int64) (fun r u => P (r, u)) (fun u t => va_P G.1 vwCl (wl G u.1 u.2) t.heap) (Aw G)
def QZ0 (G : GG) (M : Mem) (h : Int64) (P : Bool → Prop) : Array Value → State → Outcome → State → Prop := va_Qi (S := Bool) (fun r u => r = bI u ∧ P u) (fun _ t => va_P G.1 vwCl (wl G M h) t.heap) (Aw G)
def QZ1 (G : GG) (h : Int64) (P : Bool × Mem → Prop) : Array Value → State → Outcome → State → Prop := va_Qi (S := Bool × Mem) (fun r u => r = bI u.1 ∧ P u) (fun u t => va_P G.1 vwCl (wl G u.2 h) t.heap) (Aw G)
def QL0 (G : GG) (M : Mem) (h : Int64) (P : Int64 → Prop) : Array Value → State → Outcome → State → Prop := va_Ql (S := Unit) (fun r _ => P r) (fun _ t => va_P G.1 vwCl (wl G M h) t.heap) (Aw G)
def QL1 (G : GG) (h : Int64) (P : Int64 × Mem → Prop) : Array Value → State → Outcome → State → Prop := va_Ql (S := Mem) (fun r u => P (r, u)) (fun u t => va_P G.1 vwCl (wl G u h) t.heap) (Aw G)
def QLh (G : GG) (P : Int64 × Mem × Int64 → Prop) : Array Value → State → Outcome → State → Prop := va_Ql (S := Mem × Int64) (fun r u => P (r, u)) (fun u t => va_P G.1 vwCl (wl G u.1 u.2) t.heap) (Aw G)
def QV1 (G : GG) (h : Int64) (P : Mem → Prop) : Array Value → State → Outcome → State → Prop := va_Qv (S := Mem) (fun u => P u) (fun u t => va_P G.1 vwCl (wl G u h) t.heap) (Aw G)
def QVh (G : GG) (P : Mem × Int64 → Prop) : Array Value → State → Outcome → State → Prop := va_Qv (S := Mem × Int64) (fun u => P u) (fun u t => va_P G.1 vwCl (wl G u.1 u.2) t.heap) (Aw G)
section XM
variable {l : Launch} {y : MethodName} {cc : ByteArray} {maxL : Nat} {rm : Room} {G : GG} {av : List Value} {M : Mem} {h : Int64}
theorem xm_i0 {P : Int32 → Prop} (hy : plainName y.cls = true) (hn : (lg_sl av).length ≤ maxL)
    (body : ∀ (p : Program) (e : Env) (s : State) (m : MethodId) (args : Array Value) (below : List Frame) (meth : Method) (c : Code) (ls : Array Slot) (Q : State → Prop), CallFix p m c cc maxL s args TB y.cls → EnvOK G s → (∀ (v : Int32) (H : Heap) (locs : List Loc) (pc : Nat) (ls : Array Slot), P v → va_P G.1 vwCl (wl G M h) H → va_S (Aw G) s.heap H locs → decode cc pc = .ok (.ireturn, 1) → W p l e rm s m args below meth c H locs 0 0 Q (F0 m pc ls [.int v])) → va_P G.1 vwCl (wl G M h) s.heap → va_S (Aw G) s.heap s.heap [] → lv_has ls maxL (lv_args 0 av) →
      W p l e rm s m args below meth c s.heap [] 0 0 Q (F0 m 0 ls [])) : Met1 l y cc maxL (some .int) rm G av M h (QI0 G M h P) := by
  refine xm_start hy hn ?_
  intro p e s m below meth c ls C hr hk hE hP hS hl
  refine body p e s m _ below meth c ls _ C hE ?_ hP hS hl
  intro v H locs pc ls hp hP hS hdg
  exact W.iret C.1 C.2.1 hr (fun t ht _ => ⟨⟨v, (), rfl, hp, vP_t ht hP⟩, hS.F ht⟩) hS.2.2 hdg (hlocks := hk)
theorem xm_i1 {P : Int32 × Mem → Prop} (hy : plainName y.cls = true) (hn : (lg_sl av).length ≤ maxL)
    (body : ∀ (p : Program) (e : Env) (s : State) (m : MethodId) (args : Array Value) (below : List Frame) (meth : Method) (c : Code) (ls : Array Slot) (Q : State → Prop), CallFix p m c cc maxL s args TB y.cls → EnvOK G s → (∀ (v : Int32) (M1 : Mem) (H : Heap) (locs : List Loc) (pc : Nat) (ls : Array Slot), P (v, M1) → va_P G.1 vwCl (wl G M1 h) H → va_S (Aw G) s.heap H locs → decode cc pc = .ok (.ireturn, 1) → W p l e rm s m args below meth c H locs 0 0 Q (F0 m pc ls [.int v])) → va_P G.1 vwCl (wl G M h) s.heap → va_S (Aw G) s.heap s.heap [] → lv_has ls maxL (lv_args 0 av) →
      W p l e rm s m args below meth c s.heap [] 0 0 Q (F0 m 0 ls [])) : Met1 l y cc maxL (some .int) rm G av M h (QI1 G h P) := by
  refine xm_start hy hn ?_
  intro p e s m below meth c ls C hr hk hE hP hS hl
  refine body p e s m _ below meth c ls _ C hE ?_ hP hS hl
  intro v M1 H locs pc ls hp hP hS hdg
  exact W.iret C.1 C.2.1 hr (fun t ht _ => ⟨⟨v, M1, rfl, hp, vP_t ht hP⟩, hS.F ht⟩) hS.2.2 hdg (hlocks := hk)
theorem xm_ih {P : Int32 × Mem × Int64 → Prop} (hy : plainName y.cls = true) (hn : (lg_sl av).length ≤ maxL)
    (body : ∀ (p : Program) (e : Env) (s : State) (m : MethodId) (args : Array Value) (below : List Frame) (meth : Method) (c : Code) (ls : Array Slot) (Q : State → Prop), CallFix p m c cc maxL s args TB y.cls → EnvOK G s → (∀ (v : Int32) (M1 : Mem) (h1 : Int64) (H : Heap) (locs : List Loc) (pc : Nat) (ls : Array Slot), P (v, M1, h1) → va_P G.1 vwCl (wl G M1 h1) H → va_S (Aw G) s.heap H locs → decode cc pc = .ok (.ireturn, 1) → W p l e rm s m args below meth c H locs 0 0 Q (F0 m pc ls [.int v])) → va_P G.1 vwCl (wl G M h) s.heap → va_S (Aw G) s.heap s.heap [] → lv_has ls maxL (lv_args 0 av) →
      W p l e rm s m args below meth c s.heap [] 0 0 Q (F0 m 0 ls [])) : Met1 l y cc maxL (some .int) rm G av M h (QIh G P) := by
  refine xm_start hy hn ?_
  intro p e s m below meth c ls C hr hk hE hP hS hl
  refine body p e s m _ below meth c ls _ C hE ?_ hP hS hl
  intro v M1 h1 H locs pc ls hp hP hS hdg
  exact W.iret C.1 C.2.1 hr (fun t ht _ => ⟨⟨v, (M1, h1), rfl, hp, vP_t ht hP⟩, hS.F ht⟩) hS.2.2 hdg (hlocks := hk)
theorem xm_z0 {P : Bool → Prop} (hy : plainName y.cls = true) (hn : (lg_sl av).length ≤ maxL)
    (body : ∀ (p : Program) (e : Env) (s : State) (m : MethodId) (args : Array Value) (below : List Frame) (meth : Method) (c : Code) (ls : Array Slot) (Q : State → Prop), CallFix p m c cc maxL s args TB y.cls → EnvOK G s → (∀ (v : Bool) (H : Heap) (locs : List Loc) (pc : Nat) (ls : Array Slot), P v → va_P G.1 vwCl (wl G M h) H → va_S (Aw G) s.heap H locs → decode cc pc = .ok (.ireturn, 1) → W p l e rm s m args below meth c H locs 0 0 Q (F0 m pc ls [.int (bI v)])) → va_P G.1 vwCl (wl G M h) s.heap → va_S (Aw G) s.heap s.heap [] → lv_has ls maxL (lv_args 0 av) →
      W p l e rm s m args below meth c s.heap [] 0 0 Q (F0 m 0 ls [])) : Met1 l y cc maxL (some .boolean) rm G av M h (QZ0 G M h P) := by
  refine xm_start hy hn ?_
  intro p e s m below meth c ls C hr hk hE hP hS hl
  refine body p e s m _ below meth c ls _ C hE ?_ hP hS hl
  intro v H locs pc ls hp hP hS hdg
  exact W.zret C.1 C.2.1 hr (bI_n v) (fun t ht _ => ⟨⟨bI v, v, rfl, ⟨rfl, hp⟩, vP_t ht hP⟩, hS.F ht⟩) hS.2.2 hdg (hlocks := hk)
theorem xm_z1 {P : Bool × Mem → Prop} (hy : plainName y.cls = true) (hn : (lg_sl av).length ≤ maxL)
    (body : ∀ (p : Program) (e : Env) (s : State) (m : MethodId) (args : Array Value) (below : List Frame) (meth : Method) (c : Code) (ls : Array Slot) (Q : State → Prop), CallFix p m c cc maxL s args TB y.cls → EnvOK G s → (∀ (v : Bool) (M1 : Mem) (H : Heap) (locs : List Loc) (pc : Nat) (ls : Array Slot), P (v, M1) → va_P G.1 vwCl (wl G M1 h) H → va_S (Aw G) s.heap H locs → decode cc pc = .ok (.ireturn, 1) → W p l e rm s m args below meth c H locs 0 0 Q (F0 m pc ls [.int (bI v)])) → va_P G.1 vwCl (wl G M h) s.heap → va_S (Aw G) s.heap s.heap [] → lv_has ls maxL (lv_args 0 av) →
      W p l e rm s m args below meth c s.heap [] 0 0 Q (F0 m 0 ls [])) : Met1 l y cc maxL (some .boolean) rm G av M h (QZ1 G h P) := by
  refine xm_start hy hn ?_
  intro p e s m below meth c ls C hr hk hE hP hS hl
  refine body p e s m _ below meth c ls _ C hE ?_ hP hS hl
  intro v M1 H locs pc ls hp hP hS hdg
  exact W.zret C.1 C.2.1 hr (bI_n v) (fun t ht _ => ⟨⟨bI v, (v, M1), rfl, ⟨rfl, hp⟩, vP_t ht hP⟩, hS.F ht⟩) hS.2.2 hdg (hlocks := hk)
theorem xm_l0 {P : Int64 → Prop} (hy : plainName y.cls = true) (hn : (lg_sl av).length ≤ maxL)
    (body : ∀ (p : Program) (e : Env) (s : State) (m : MethodId) (args : Array Value) (below : List Frame) (meth : Method) (c : Code) (ls : Array Slot) (Q : State → Prop), CallFix p m c cc maxL s args TB y.cls → EnvOK G s → (∀ (v : Int64) (H : Heap) (locs : List Loc) (pc : Nat) (ls : Array Slot), P v → va_P G.1 vwCl (wl G M h) H → va_S (Aw G) s.heap H locs → decode cc pc = .ok (.lreturn, 1) → W p l e rm s m args below meth c H locs 0 0 Q (F0 m pc ls [.long v])) → va_P G.1 vwCl (wl G M h) s.heap → va_S (Aw G) s.heap s.heap [] → lv_has ls maxL (lv_args 0 av) →
      W p l e rm s m args below meth c s.heap [] 0 0 Q (F0 m 0 ls [])) : Met1 l y cc maxL (some .long) rm G av M h (QL0 G M h P) := by
  refine xm_start hy hn ?_
  intro p e s m below meth c ls C hr hk hE hP hS hl
  refine body p e s m _ below meth c ls _ C hE ?_ hP hS hl
  intro v H locs pc ls hp hP hS hdg
  exact W.lret C.1 C.2.1 hr (fun t ht _ => ⟨⟨v, (), rfl, hp, vP_t ht hP⟩, hS.F ht⟩) hS.2.2 hdg (hlocks := hk)
theorem xm_l1 {P : Int64 × Mem → Prop} (hy : plainName y.cls = true) (hn : (lg_sl av).length ≤ maxL)
    (body : ∀ (p : Program) (e : Env) (s : State) (m : MethodId) (args : Array Value) (below : List Frame) (meth : Method) (c : Code) (ls : Array Slot) (Q : State → Prop), CallFix p m c cc maxL s args TB y.cls → EnvOK G s → (∀ (v : Int64) (M1 : Mem) (H : Heap) (locs : List Loc) (pc : Nat) (ls : Array Slot), P (v, M1) → va_P G.1 vwCl (wl G M1 h) H → va_S (Aw G) s.heap H locs → decode cc pc = .ok (.lreturn, 1) → W p l e rm s m args below meth c H locs 0 0 Q (F0 m pc ls [.long v])) → va_P G.1 vwCl (wl G M h) s.heap → va_S (Aw G) s.heap s.heap [] → lv_has ls maxL (lv_args 0 av) →
      W p l e rm s m args below meth c s.heap [] 0 0 Q (F0 m 0 ls [])) : Met1 l y cc maxL (some .long) rm G av M h (QL1 G h P) := by
  refine xm_start hy hn ?_
  intro p e s m below meth c ls C hr hk hE hP hS hl
  refine body p e s m _ below meth c ls _ C hE ?_ hP hS hl
  intro v M1 H locs pc ls hp hP hS hdg
  exact W.lret C.1 C.2.1 hr (fun t ht _ => ⟨⟨v, M1, rfl, hp, vP_t ht hP⟩, hS.F ht⟩) hS.2.2 hdg (hlocks := hk)
theorem xm_lh {P : Int64 × Mem × Int64 → Prop} (hy : plainName y.cls = true) (hn : (lg_sl av).length ≤ maxL)
    (body : ∀ (p : Program) (e : Env) (s : State) (m : MethodId) (args : Array Value) (below : List Frame) (meth : Method) (c : Code) (ls : Array Slot) (Q : State → Prop), CallFix p m c cc maxL s args TB y.cls → EnvOK G s → (∀ (v : Int64) (M1 : Mem) (h1 : Int64) (H : Heap) (locs : List Loc) (pc : Nat) (ls : Array Slot), P (v, M1, h1) → va_P G.1 vwCl (wl G M1 h1) H → va_S (Aw G) s.heap H locs → decode cc pc = .ok (.lreturn, 1) → W p l e rm s m args below meth c H locs 0 0 Q (F0 m pc ls [.long v])) → va_P G.1 vwCl (wl G M h) s.heap → va_S (Aw G) s.heap s.heap [] → lv_has ls maxL (lv_args 0 av) →
      W p l e rm s m args below meth c s.heap [] 0 0 Q (F0 m 0 ls [])) : Met1 l y cc maxL (some .long) rm G av M h (QLh G P) := by
  refine xm_start hy hn ?_
  intro p e s m below meth c ls C hr hk hE hP hS hl
  refine body p e s m _ below meth c ls _ C hE ?_ hP hS hl
  intro v M1 h1 H locs pc ls hp hP hS hdg
  exact W.lret C.1 C.2.1 hr (fun t ht _ => ⟨⟨v, (M1, h1), rfl, hp, vP_t ht hP⟩, hS.F ht⟩) hS.2.2 hdg (hlocks := hk)
theorem xm_v1 {P : Mem → Prop} (hy : plainName y.cls = true) (hn : (lg_sl av).length ≤ maxL)
    (body : ∀ (p : Program) (e : Env) (s : State) (m : MethodId) (args : Array Value) (below : List Frame) (meth : Method) (c : Code) (ls : Array Slot) (Q : State → Prop), CallFix p m c cc maxL s args TB y.cls → EnvOK G s → (∀ (M1 : Mem) (H : Heap) (locs : List Loc) (pc : Nat) (ls : Array Slot), P M1 → va_P G.1 vwCl (wl G M1 h) H → va_S (Aw G) s.heap H locs → decode cc pc = .ok (.return_, 1) → W p l e rm s m args below meth c H locs 0 0 Q (F0 m pc ls [])) → va_P G.1 vwCl (wl G M h) s.heap → va_S (Aw G) s.heap s.heap [] → lv_has ls maxL (lv_args 0 av) →
      W p l e rm s m args below meth c s.heap [] 0 0 Q (F0 m 0 ls [])) : Met1 l y cc maxL none rm G av M h (QV1 G h P) := by
  refine xm_start hy hn ?_
  intro p e s m below meth c ls C hr hk hE hP hS hl
  refine body p e s m _ below meth c ls _ C hE ?_ hP hS hl
  intro M1 H locs pc ls hp hP hS hdg
  exact W.vret C.1 C.2.1 hr (fun t ht _ => ⟨⟨M1, rfl, hp, vP_t ht hP⟩, hS.F ht⟩) hS.2.2 hdg (hlocks := hk)
theorem xm_vh {P : Mem × Int64 → Prop} (hy : plainName y.cls = true) (hn : (lg_sl av).length ≤ maxL)
    (body : ∀ (p : Program) (e : Env) (s : State) (m : MethodId) (args : Array Value) (below : List Frame) (meth : Method) (c : Code) (ls : Array Slot) (Q : State → Prop), CallFix p m c cc maxL s args TB y.cls → EnvOK G s → (∀ (M1 : Mem) (h1 : Int64) (H : Heap) (locs : List Loc) (pc : Nat) (ls : Array Slot), P (M1, h1) → va_P G.1 vwCl (wl G M1 h1) H → va_S (Aw G) s.heap H locs → decode cc pc = .ok (.return_, 1) → W p l e rm s m args below meth c H locs 0 0 Q (F0 m pc ls [])) → va_P G.1 vwCl (wl G M h) s.heap → va_S (Aw G) s.heap s.heap [] → lv_has ls maxL (lv_args 0 av) →
      W p l e rm s m args below meth c s.heap [] 0 0 Q (F0 m 0 ls [])) : Met1 l y cc maxL none rm G av M h (QVh G P) := by
  refine xm_start hy hn ?_
  intro p e s m below meth c ls C hr hk hE hP hS hl
  refine body p e s m _ below meth c ls _ C hE ?_ hP hS hl
  intro M1 h1 H locs pc ls hp hP hS hdg
  exact W.vret C.1 C.2.1 hr (fun t ht _ => ⟨⟨(M1, h1), rfl, hp, vP_t ht hP⟩, hS.F ht⟩) hS.2.2 hdg (hlocks := hk)
end XM
section XC
variable {p : Program} {l : Launch} {e : Env} {R : Room} {s : State} {m : MethodId} {args : Array Value} {below : List Frame} {meth : Method} {c : Code} {H : Heap} {locs : List Loc} {cells slots : Nat} {Q : State → Prop} {pc : Nat} {ls : Array Slot} {rest st : List Value} {G : GG} {M : Mem} {h : Int64} {a : Array Value}
theorem x_ci0 {P : Int32 → Prop} (hr : RunT p l e R s m args below meth c H locs cells slots G pc ls st rest (QI0 G M h P a)) (hS : va_S (Aw G) s.heap H locs)
    (k : ∀ (r : Int32) (H1 : Heap) (locs1 : List Loc), P r → va_P G.1 vwCl (wl G M h) H1 → va_S (Aw G) s.heap H1 locs1 → W p l e R s m args below meth c H1 locs1 cells slots Q (F0 m (pc + 3) ls (.int r :: rest))) : W p l e R s m args below meth c H locs cells slots Q (F0 m pc ls st) := by
  refine va_calli hr hS (fun _ _ h => h) (fun _ h => h) (fun r u t H1 locs1 ht _ hp hb _ _ hS1 => ?_)
  subst ht
  exact k r _ locs1 hp hb hS1
theorem x_ci1 {P : Int32 × Mem → Prop} (hr : RunT p l e R s m args below meth c H locs cells slots G pc ls st rest (QI1 G h P a)) (hS : va_S (Aw G) s.heap H locs)
    (k : ∀ (r : Int32) (M1 : Mem) (H1 : Heap) (locs1 : List Loc), P (r, M1) → va_P G.1 vwCl (wl G M1 h) H1 → va_S (Aw G) s.heap H1 locs1 → W p l e R s m args below meth c H1 locs1 cells slots Q (F0 m (pc + 3) ls (.int r :: rest))) : W p l e R s m args below meth c H locs cells slots Q (F0 m pc ls st) := by
  refine va_calli hr hS (fun _ _ h => h) (fun _ h => h) (fun r u t H1 locs1 ht _ hp hb _ _ hS1 => ?_)
  subst ht
  exact k r u _ locs1 hp hb hS1
theorem x_cih {P : Int32 × Mem × Int64 → Prop} (hr : RunT p l e R s m args below meth c H locs cells slots G pc ls st rest (QIh G P a)) (hS : va_S (Aw G) s.heap H locs)
    (k : ∀ (r : Int32) (M1 : Mem) (h1 : Int64) (H1 : Heap) (locs1 : List Loc), P (r, M1, h1) → va_P G.1 vwCl (wl G M1 h1) H1 → va_S (Aw G) s.heap H1 locs1 → W p l e R s m args below meth c H1 locs1 cells slots Q (F0 m (pc + 3) ls (.int r :: rest))) : W p l e R s m args below meth c H locs cells slots Q (F0 m pc ls st) := by
  refine va_calli hr hS (fun _ _ h => h) (fun _ h => h) (fun r u t H1 locs1 ht _ hp hb _ _ hS1 => ?_)
  subst ht
  exact k r u.1 u.2 _ locs1 hp hb hS1
theorem x_cz0 {P : Bool → Prop} (hr : RunT p l e R s m args below meth c H locs cells slots G pc ls st rest (QZ0 G M h P a)) (hS : va_S (Aw G) s.heap H locs)
    (k : ∀ (r : Bool) (H1 : Heap) (locs1 : List Loc), P r → va_P G.1 vwCl (wl G M h) H1 → va_S (Aw G) s.heap H1 locs1 → W p l e R s m args below meth c H1 locs1 cells slots Q (F0 m (pc + 3) ls (.int (bI r) :: rest))) : W p l e R s m args below meth c H locs cells slots Q (F0 m pc ls st) := by
  refine va_calli hr hS (fun _ _ h => h) (fun _ h => h) (fun r u t H1 locs1 ht _ hp hb _ _ hS1 => ?_)
  subst ht
  rw [hp.1]; exact k u _ locs1 hp.2 hb hS1
theorem x_cz1 {P : Bool × Mem → Prop} (hr : RunT p l e R s m args below meth c H locs cells slots G pc ls st rest (QZ1 G h P a)) (hS : va_S (Aw G) s.heap H locs)
    (k : ∀ (r : Bool) (M1 : Mem) (H1 : Heap) (locs1 : List Loc), P (r, M1) → va_P G.1 vwCl (wl G M1 h) H1 → va_S (Aw G) s.heap H1 locs1 → W p l e R s m args below meth c H1 locs1 cells slots Q (F0 m (pc + 3) ls (.int (bI r) :: rest))) : W p l e R s m args below meth c H locs cells slots Q (F0 m pc ls st) := by
  refine va_calli hr hS (fun _ _ h => h) (fun _ h => h) (fun r u t H1 locs1 ht _ hp hb _ _ hS1 => ?_)
  subst ht
  rw [hp.1]; exact k u.1 u.2 _ locs1 hp.2 hb hS1
theorem x_cl0 {P : Int64 → Prop} (hr : RunT p l e R s m args below meth c H locs cells slots G pc ls st rest (QL0 G M h P a)) (hS : va_S (Aw G) s.heap H locs)
    (k : ∀ (r : Int64) (H1 : Heap) (locs1 : List Loc), P r → va_P G.1 vwCl (wl G M h) H1 → va_S (Aw G) s.heap H1 locs1 → W p l e R s m args below meth c H1 locs1 cells slots Q (F0 m (pc + 3) ls (.long r :: rest))) : W p l e R s m args below meth c H locs cells slots Q (F0 m pc ls st) := by
  refine va_calll hr hS (fun _ _ h => h) (fun _ h => h) (fun r u t H1 locs1 ht _ hp hb _ _ hS1 => ?_)
  subst ht
  exact k r _ locs1 hp hb hS1
theorem x_cl1 {P : Int64 × Mem → Prop} (hr : RunT p l e R s m args below meth c H locs cells slots G pc ls st rest (QL1 G h P a)) (hS : va_S (Aw G) s.heap H locs)
    (k : ∀ (r : Int64) (M1 : Mem) (H1 : Heap) (locs1 : List Loc), P (r, M1) → va_P G.1 vwCl (wl G M1 h) H1 → va_S (Aw G) s.heap H1 locs1 → W p l e R s m args below meth c H1 locs1 cells slots Q (F0 m (pc + 3) ls (.long r :: rest))) : W p l e R s m args below meth c H locs cells slots Q (F0 m pc ls st) := by
  refine va_calll hr hS (fun _ _ h => h) (fun _ h => h) (fun r u t H1 locs1 ht _ hp hb _ _ hS1 => ?_)
  subst ht
  exact k r u _ locs1 hp hb hS1
theorem x_clh {P : Int64 × Mem × Int64 → Prop} (hr : RunT p l e R s m args below meth c H locs cells slots G pc ls st rest (QLh G P a)) (hS : va_S (Aw G) s.heap H locs)
    (k : ∀ (r : Int64) (M1 : Mem) (h1 : Int64) (H1 : Heap) (locs1 : List Loc), P (r, M1, h1) → va_P G.1 vwCl (wl G M1 h1) H1 → va_S (Aw G) s.heap H1 locs1 → W p l e R s m args below meth c H1 locs1 cells slots Q (F0 m (pc + 3) ls (.long r :: rest))) : W p l e R s m args below meth c H locs cells slots Q (F0 m pc ls st) := by
  refine va_calll hr hS (fun _ _ h => h) (fun _ h => h) (fun r u t H1 locs1 ht _ hp hb _ _ hS1 => ?_)
  subst ht
  exact k r u.1 u.2 _ locs1 hp hb hS1
theorem x_cv1 {P : Mem → Prop} (hr : RunT p l e R s m args below meth c H locs cells slots G pc ls st rest (QV1 G h P a)) (hS : va_S (Aw G) s.heap H locs)
    (k : ∀ (M1 : Mem) (H1 : Heap) (locs1 : List Loc), P M1 → va_P G.1 vwCl (wl G M1 h) H1 → va_S (Aw G) s.heap H1 locs1 → W p l e R s m args below meth c H1 locs1 cells slots Q (F0 m (pc + 3) ls (rest))) : W p l e R s m args below meth c H locs cells slots Q (F0 m pc ls st) := by
  refine va_callv hr hS (fun _ _ h => h) (fun _ h => h) (fun u t H1 locs1 ht _ hp hb _ _ hS1 => ?_)
  subst ht
  exact k u _ locs1 hp hb hS1
theorem x_cvh {P : Mem × Int64 → Prop} (hr : RunT p l e R s m args below meth c H locs cells slots G pc ls st rest (QVh G P a)) (hS : va_S (Aw G) s.heap H locs)
    (k : ∀ (M1 : Mem) (h1 : Int64) (H1 : Heap) (locs1 : List Loc), P (M1, h1) → va_P G.1 vwCl (wl G M1 h1) H1 → va_S (Aw G) s.heap H1 locs1 → W p l e R s m args below meth c H1 locs1 cells slots Q (F0 m (pc + 3) ls (rest))) : W p l e R s m args below meth c H locs cells slots Q (F0 m pc ls st) := by
  refine va_callv hr hS (fun _ _ h => h) (fun _ h => h) (fun u t H1 locs1 ht _ hp hb _ _ hS1 => ?_)
  subst ht
  exact k u.1 u.2 _ locs1 hp hb hS1
end XC
