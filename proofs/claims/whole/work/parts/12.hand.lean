set_option maxRecDepth 20000 in
theorem wt_link : Cond.fieldLink RX5 29 "EdgesFit$Marks" "WEIGHTS" "[I" ∈ TB := (tb_k2 219 rfl rfl)
set_option maxRecDepth 20000 in
theorem st_link38 : Cond.fieldLink RJ0 38 "java/lang/String" "COMPACT_STRINGS" "Z" ∈ TB := (tb_k3 158 rfl rfl)
set_option maxRecDepth 20000 in
theorem st_link15 : Cond.fieldLink RJ0 15 "java/lang/String" "coder" "B" ∈ TB := (tb_k7 127 rfl rfl)
set_option maxRecDepth 20000 in
theorem st_link9 : Cond.fieldLink RJ0 9 "java/lang/String" "value" "[B" ∈ TB := (tb_k7 128 rfl rfl)
theorem OB_none {α : Type} {P : α → Prop} : ¬ OB (none : Option α) P := by
  rintro ⟨z, h, -⟩
  cases h
def SL (k : Nat) : Nat := strN.getD k 0
def SB (k j : Nat) : Int32 := (strB.getD k []).getD j 0
section XH
variable {p : Program} {l : Launch} {e : Env} {R : Room} {s : State} {m : MethodId} {args : Array Value} {below : List Frame} {meth : Method} {c : Code} {H : Heap} {locs : List Loc} {cells slots : Nat} {Q : State → Prop}
variable {cc : ByteArray} {pc : Nat} {ls : Array Slot} {rest : List Value} {G : GG} {M : Mem} {h : Int64} {nL index : Nat} {own : String}
theorem x_mmax (C : CallFix p m c cc nL s args TB own) (hsz : ls.size = nL) (hl : Cond.methodLink own index Lib.Math.max.name ∈ TB) (hR : 1 ≤ R.frames ∧ 21 ≤ R.locals ∧ cells ≤ R.cells ∧ slots ≤ R.slots) (hW : (rest.map fun v => v.category).sum ≤ 8) {x y : Int32} (hdg : decode cc pc = .ok (.invokestatic index, 3)) (k : W p l e R s m args below meth c H locs cells slots Q (F0 m (pc + 3) ls (.int (jmax x y) :: rest))) : W p l e R s m args below meth c H locs cells slots Q (F0 m pc ls (.int y :: .int x :: rest)) :=
  va_mmax C.1 C.2.1 (C.2.2.1.trans hsz.symm) C.2.2.2.1 (C.2.2.2.2 _ hl) (C.2.2.2.2 _ ykM_max.1) (C.2.2.2.2 _ ykM_max.2.1) (C.2.2.2.2 _ ykM_max.2.2) hR.1 (by have := hR.2.1; omega) hR.2.2.1 hR.2.2.2 hdg k
theorem x_mmin (C : CallFix p m c cc nL s args TB own) (hsz : ls.size = nL) (hl : Cond.methodLink own index Lib.Math.min.name ∈ TB) (hR : 1 ≤ R.frames ∧ 21 ≤ R.locals ∧ cells ≤ R.cells ∧ slots ≤ R.slots) (hW : (rest.map fun v => v.category).sum ≤ 8) {x y : Int32} (hdg : decode cc pc = .ok (.invokestatic index, 3)) (k : W p l e R s m args below meth c H locs cells slots Q (F0 m (pc + 3) ls (.int (jmin x y) :: rest))) : W p l e R s m args below meth c H locs cells slots Q (F0 m pc ls (.int y :: .int x :: rest)) :=
  va_mmin C.1 C.2.1 (C.2.2.1.trans hsz.symm) C.2.2.2.1 (C.2.2.2.2 _ hl) (C.2.2.2.2 _ ykM_min.1) (C.2.2.2.2 _ ykM_min.2.1) (C.2.2.2.2 _ ykM_min.2.2) hR.1 (by have := hR.2.1; omega) hR.2.2.1 hR.2.2.2 hdg k
theorem x_mabs (C : CallFix p m c cc nL s args TB own) (hsz : ls.size = nL) (hl : Cond.methodLink own index Lib.Math.abs.name ∈ TB) (hR : 1 ≤ R.frames ∧ 21 ≤ R.locals ∧ cells ≤ R.cells ∧ slots ≤ R.slots) (hW : (rest.map fun v => v.category).sum ≤ 8) {x : Int32} (hdg : decode cc pc = .ok (.invokestatic index, 3)) (k : W p l e R s m args below meth c H locs cells slots Q (F0 m (pc + 3) ls (.int (jabs x) :: rest))) : W p l e R s m args below meth c H locs cells slots Q (F0 m pc ls (.int x :: rest)) :=
  va_mabs C.1 C.2.1 (C.2.2.1.trans hsz.symm) C.2.2.2.1 (C.2.2.2.2 _ hl) (C.2.2.2.2 _ ykM_abs.1) (C.2.2.2.2 _ ykM_abs.2.1) (C.2.2.2.2 _ ykM_abs.2.2) hR.1 (by have := hR.2.1; omega) hR.2.2.1 hR.2.2.2 hdg k
/-! strings -/
theorem x_sbald (C : CallFix p m c cc nL s args TB own) (hE : EnvOK G s) (hS : va_S (Aw G) s.heap H locs) {k : Nat} (hk : k < 3) {i : Int32} (hi : inb i (SL k) = true) (hdg : decode cc pc = .ok (.baload, 1))
    (kk : W p l e R s m args below meth c H locs cells slots Q (F0 m (pc + 1) ls (.int (SB k i.toNatClampNeg) :: rest))) : W p l e R s m args below meth c H locs cells slots Q (F0 m pc ls (.int i :: .ref (gV G k) :: rest)) :=
  va_tb C.1 C.2.1 (hE.2.2.2.2.2.2.1.1 k hk).2.2.2 hS (inb_in hi) rfl hdg kk
theorem x_sblen (C : CallFix p m c cc nL s args TB own) (hE : EnvOK G s) (hS : va_S (Aw G) s.heap H locs) {k : Nat} (hk : k < 3) (hdg : decode cc pc = .ok (.arraylength, 1))
    (kk : W p l e R s m args below meth c H locs cells slots Q (F0 m (pc + 1) ls (.int (nI (SL k)) :: rest))) : W p l e R s m args below meth c H locs cells slots Q (F0 m pc ls (.ref (gV G k) :: rest)) :=
  va_tlen C.1 C.2.1 (hE.2.2.2.2.2.2.1.1 k hk).2.2.2 hS rfl hdg kk
theorem x_sval (C : CallFix p m c cc nL s args TB RJ0) (hE : EnvOK G s) (hS : va_S (Aw G) s.heap H locs) {k : Nat} (hk : k < 3) (hdg : decode cc pc = .ok (.getfield 9, 3))
    (kk : W p l e R s m args below meth c H locs cells slots Q (F0 m (pc + 3) ls (.ref (gV G k) :: rest))) : W p l e R s m args below meth c H locs cells slots Q (F0 m pc ls (.ref (gK G k) :: rest)) :=
  vk_getf C.1 C.2.1 (hE.2.2.2.2.2.2.1.1 k hk).2.2.1 hS C.2.2.2.1 (C.2.2.2.2 _ st_link9) (fun _ h => h) hdg kk
theorem x_scod (C : CallFix p m c cc nL s args TB RJ0) (hE : EnvOK G s) (hS : va_S (Aw G) s.heap H locs) {k : Nat} (hk : k < 3) (hdg : decode cc pc = .ok (.getfield 15, 3))
    (kk : W p l e R s m args below meth c H locs cells slots Q (F0 m (pc + 3) ls (.int 0 :: rest))) : W p l e R s m args below meth c H locs cells slots Q (F0 m pc ls (.ref (gK G k) :: rest)) :=
  vk_getf C.1 C.2.1 (hE.2.2.2.2.2.2.1.1 k hk).2.1 hS C.2.2.2.1 (C.2.2.2.2 _ st_link15) (fun _ h => h) hdg kk
theorem x_scmp (C : CallFix p m c cc nL s args TB RJ0) (hE : EnvOK G s) (hS : va_S (Aw G) s.heap H locs) (hdg : decode cc pc = .ok (.getstatic 38, 3))
    (kk : W p l e R s m args below meth c H locs cells slots Q (F0 m (pc + 3) ls (.int 1 :: rest))) : W p l e R s m args below meth c H locs cells slots Q (F0 m pc ls rest) :=
  va_gets C.1 C.2.1 hE.2.2.2.2.2.2.2 hS C.2.2.2.1 (C.2.2.2.2 _ st_link38) (fun _ h => h) hdg kk
variable {y : MethodName} {bytes : ByteArray} {maxL : Nat} {ret : Option FieldType} {n : Nat} {rm : Room} {As : List Value} {Qc : Array Value → State → Outcome → State → Prop}
theorem x_runVS (C : CallFix p m c cc nL s args TB own) (hE : EnvOK G s) (hP : va_P G.1 vwCl (wl G M h) H) (hS : va_S (Aw G) s.heap H locs) (Y : YV y bytes maxL ret n) (hl : Cond.methodLink own index y ∈ TB) {k : Nat} (hk : k < 3) (hy : y.cls = "java/lang/String")
    (hM : Met1 l y bytes maxL ret rm G (.ref (gK G k) :: As) M h Qc) (hR : rm.cells = 0 ∧ rm.slots = 0 ∧ rm.frames + 1 ≤ R.frames ∧ 8 + (maxL + 11) + rm.locals ≤ R.locals ∧ cells ≤ R.cells ∧ slots ≤ R.slots) (hn : As.length = n) (hsz : ls.size = nL) (hW : (rest.map fun v => v.category).sum ≤ 8) (hdg : decode cc pc = .ok (.invokevirtual index, 3)) :
    RunT p l e R s m args below meth c H locs cells slots G pc ls (As.reverse ++ .ref (gK G k) :: rest) rest (Qc (Value.ref (gK G k) :: As).toArray) :=
  va_runV (As := As) C hM ⟨⟨hR.1, hR.2.1, hR.2.2.1, hR.2.2.2.1, x_pay C.2.2.2.2 Y.1, List.mem_singleton_self _, C.2.2.2.2 _ Y.1, C.2.2.2.2 _ Y.2.2.2.1, Y.2.2.2.2.1, x_parn Y.2.2.2.2.2, C.2.2.2.2 _ hl⟩, C.2.2.2.2 _ Y.2.1, C.2.2.2.2 _ Y.2.2.1⟩ ⟨PreM.blind, by rw [hy]; exact vk_recv hE.2.2.2.2.2.2.1 hk hS, x_pre hE hP hS _⟩ rfl hn hsz rfl (lv_room hW) hdg ⟨hR.2.2.2.2.1, hR.2.2.2.2.2⟩
end XH
def rm_0 : Room := { frames := 0, cells := 0, slots := 0, locals := 0 }
set_option maxRecDepth 100000 in
theorem c_J0_coder_7d493 {l : Launch} {G : GG} {k0 : Nat} {M : Mem} {h : Int64} (hk0 : k0 < 3) {P9 : Int32 → Prop} (hf : OB (some (0 : Int32)) P9) : Met1 l yJ0_coder_7d493 cJ0_coder_7d493 1 (some .byte) rm_0 G [.ref (gK G k0)] M h (QI0 G M h P9) := by
  refine xm_start (by decide) (Nat.le_of_ble_eq_true rfl) ?_
  intro p e s m below meth c ls C hr hk hE hP hS hl
  have C : CallFix p m c cJ0_coder_7d493 1 s _ TB RJ0 := C
  have hx := C.1
  have hb := C.2.1
  have hl : lv_has ls 1 [(0, .ref (gK G k0))] := hl
  refine x_scmp C hE hS dJ0_coder_7d493_0 ?_
  refine lv_if_eq (tgt := 13) hx hb dJ0_coder_7d493_3 (by decide) (fun hc => absurd hc (by decide)) (fun hc => ?_)
  refine lv_aload_n hx hb dJ0_coder_7d493_6 rfl (lv_at hl 0 rfl) ?_
  refine x_scod C hE hS hk0 dJ0_coder_7d493_7 ?_
  refine lv_goto (tgt := 14) hx hb dJ0_coder_7d493_10 (by decide) ?_
  exact W.zret C.1 C.2.1 hr (by decide) (fun t ht _ => ⟨⟨0, (), rfl, OB_some hf, vP_t ht hP⟩, hS.F ht⟩) hS.2.2 dJ0_coder_7d493_14 (hlocks := hk)
def f_J0_coder_7d493 (_ : Nat) : Option Int32 := some 0
def f_J0_isLatin1_aae02 (_ : Nat) : Option Bool := some true
set_option maxRecDepth 100000 in
theorem c_J0_isLatin1_aae02 {l : Launch} {G : GG} {k0 : Nat} {M : Mem} {h : Int64} (hk0 : k0 < 3) {P9 : Bool → Prop} (hf : OB (f_J0_isLatin1_aae02 k0) P9) : Met1 l yJ0_isLatin1_aae02 cJ0_isLatin1_aae02 1 (some .boolean) rm_0 G [.ref (gK G k0)] M h (QZ0 G M h P9) := by
  unfold f_J0_isLatin1_aae02 at hf
  refine xm_z0 (by decide) (Nat.le_of_ble_eq_true rfl) ?_
  intro p e s m args below meth c ls Q C hE hret hP hS hl
  have C : CallFix p m c cJ0_isLatin1_aae02 1 s args TB RJ0 := C
  have hx := C.1
  have hb := C.2.1
  have hl : lv_has ls 1 [(0, .ref (gK G k0))] := hl
  refine x_scmp C hE hS dJ0_isLatin1_aae02_0 ?_
  refine lv_if_eq (tgt := 17) hx hb dJ0_isLatin1_aae02_3 (by decide) (fun hc => absurd hc (by decide)) (fun hc => ?_)
  refine lv_aload_n hx hb dJ0_isLatin1_aae02_6 rfl (lv_at hl 0 rfl) ?_
  refine x_scod C hE hS hk0 dJ0_isLatin1_aae02_7 ?_
  refine lv_if_ne (tgt := 17) hx hb dJ0_isLatin1_aae02_10 (by decide) (fun hc => absurd rfl hc) (fun hc => ?_)
  refine lv_iconst (v := 1) hx hb dJ0_isLatin1_aae02_13 (by decide) ?_
  refine lv_goto (tgt := 18) hx hb dJ0_isLatin1_aae02_14 (by decide) ?_
  refine W.eq (g2 := F0 m 18 ls [.int (bI true)]) rfl ?_
  exact hret _ _ _ _ _ (OB_some hf) hP hS dJ0_isLatin1_aae02_18
def rm_J0_length : Room := { frames := 1, cells := 0, slots := 0, locals := 20 }
def f_J0_length_8abf5 (k : Nat) : Option Int32 := some (jshr (nI (SL k)) 0)
set_option maxRecDepth 100000 in
theorem c_J0_length_8abf5 {l : Launch} {G : GG} {k0 : Nat} {M : Mem} {h : Int64} (hk0 : k0 < 3) {P9 : Int32 → Prop} (hf : OB (f_J0_length_8abf5 k0) P9) : Met1 l yJ0_length_8abf5 cJ0_length_8abf5 1 (some .int) rm_J0_length G [.ref (gK G k0)] M h (QI0 G M h P9) := by
  unfold f_J0_length_8abf5 at hf
  refine xm_i0 (by decide) (Nat.le_of_ble_eq_true rfl) ?_
  intro p e s m args below meth c ls Q C hE hret hP hS hl
  have C : CallFix p m c cJ0_length_8abf5 1 s args TB RJ0 := C
  have hx := C.1
  have hb := C.2.1
  have hl : lv_has ls 1 [(0, .ref (gK G k0))] := hl
  refine lv_aload_n hx hb dJ0_length_8abf5_0 rfl (lv_at hl 0 rfl) ?_
  refine x_sval C hE hS hk0 dJ0_length_8abf5_1 ?_
  refine x_sblen C hE hS hk0 dJ0_length_8abf5_4 ?_
  refine lv_aload_n hx hb dJ0_length_8abf5_5 rfl (lv_at hl 0 rfl) ?_
  refine x_ci0 (rest := [.int (nI (SL k0))]) (x_runVS C hE hP hS ykJ0_coder_7d493 lkJ0_335 hk0 rfl (c_J0_coder_7d493 (P9 := fun r => r = 0) hk0 ⟨0, rfl, rfl⟩) (by decide) rfl hl.1 (Nat.le_of_ble_eq_true rfl) dJ0_length_8abf5_6) hS (fun r1 H locs hq hP hS => ?_)
  rw [hq]
  refine x_ishr C dJ0_length_8abf5_9 ?_
  exact hret _ _ _ _ _ (OB_some hf) hP hS dJ0_length_8abf5_10
/-! holderOf -/
set_option maxRecDepth 100000 in
theorem c_X11_holderOf {l : Launch} {G : GG} {a1 : Int32} {M : Mem} {h : Int64} : Met1 l yX11_holderOf cX11_holderOf 2 (some (.object "EdgesFit$Holder")) rm_0 G [.ref (xa G 0), .int a1] M h (QR G (hq a1) M h) := by
  refine xm_start (by decide) (Nat.le_of_ble_eq_true rfl) ?_
  intro p e s m below meth c ls C hr hk hE hP hS hl
  have C : CallFix p m c cX11_holderOf 2 s _ TB RX11 := C
  have hx := C.1
  have hb := C.2.1
  have hl : lv_has ls 2 [(0, .ref (xa G 0)), (1, .int a1)] := hl
  refine lv_iload_n hx hb dX11_holderOf_0 rfl (lv_at hl 1 rfl) ?_
  refine lv_if_ne (tgt := 11) hx hb dX11_holderOf_1 (by decide) (fun hc => ?_) (fun hc => ?_)
  · refine lv_aload_n hx hb dX11_holderOf_11 rfl (lv_at hl 0 rfl) ?_
    refine gfX11_46 C hE hP dX11_holderOf_12 ?_
    exact W.aret C.1 C.2.1 hr (Or.inl ⟨_, rfl⟩) (Or.inr ⟨_, rfl⟩) (fun t ht _ => ⟨⟨(), _, rfl, trivial, by unfold hq; rw [if_neg hc], vP_t ht hP⟩, hS.F ht⟩) hS.2.2 dX11_holderOf_15 (hlocks := hk)
  · refine lv_aload_n hx hb dX11_holderOf_4 rfl (lv_at hl 0 rfl) ?_
    refine gfX11_42 C hE hP dX11_holderOf_5 ?_
    refine lv_goto (tgt := 15) hx hb dX11_holderOf_8 (by decide) ?_
    exact W.aret C.1 C.2.1 hr (Or.inl ⟨_, rfl⟩) (Or.inr ⟨_, rfl⟩) (fun t ht _ => ⟨⟨(), _, rfl, trivial, by unfold hq; rw [if_pos hc], vP_t ht hP⟩, hS.F ht⟩) hS.2.2 dX11_holderOf_15 (hlocks := hk)
/-! Arrays.fill -/
def flN {α : Type} (f : Nat → α) (v : α) (i : Nat) : Nat → α := fun j => if j < i then v else f j
theorem flN_0 {α : Type} (f : Nat → α) (v : α) : flN f v 0 = f := by funext j; simp [flN]
theorem flN_s (f : Nat → Int32) (v : Int32) (i : Nat) : upd (flN f v i) i v = flN f v (i + 1) := by
  funext j
  simp only [upd, flN]
  by_cases h : j = i
  · subst h; simp
  · by_cases h2 : j < i
    · simp [h, h2, Nat.lt_succ_of_lt h2]
    · have : ¬ j < i + 1 := by omega
      simp [h, h2, this]
abbrev fillP (D : va_G) (tys : List (ClassId × FieldType)) (a : Nat) (cA : ClassId) (n : Nat) (f : Nat → Int32) (v : Int32) : Array Value → State → Prop := va_Pc [.ref a, .int v] (fun U => va_K D vwCl tys U ∧ va_P D vwCl [(a, .inl (cA, n, .inl f))] U.heap)
abbrev fillQ (D : va_G) (a : Nat) (cA : ClassId) (n : Nat) (f : Nat → Int32) (v : Int32) : Array Value → State → Outcome → State → Prop := va_Qv (S := Unit) (fun _ => True) (fun _ t => va_P D vwCl [(a, .inl (cA, n, .inl (flN f v n)))] t.heap) (fun q => q = a)
set_option maxRecDepth 100000 in
theorem c_fill {l : Launch} {D : va_G} {tys : List (ClassId × FieldType)} {a n t0 : Nat} {cA : ClassId} {f : Nat → Int32} {v : Int32} (ht : tys[t0]? = some (cA, .int)) (hn : n < 2 ^ 31) : Met l yJ7_fill_53178 [.code yJ7_fill_53178 cJ7_fill_53178 4 none] rm_0 (fillP D tys a cA n f v) (fillQ D a cA n f v) 0 0 (fun q => q = a) := by
  refine Met.ofW (cc := cJ7_fill_53178) (maxL := 4) (ret := none) (by decide) rfl ?_
  intro p e s m args below meth c s₁ B hml hv
  obtain ⟨rfl, hK, hP⟩ := hv
  rw [lg_entry_eq]
  have hx := B.exec
  have hb := B.bytes
  have hr := B.returns
  have hk := B.notSynchronized
  have hS : va_S (fun q => q = a) s.heap s.heap [] := va_S.rf
  have hl := lv_entry [.ref a, .int v] (n := 4) (Nat.le_of_ble_eq_true rfl)
  generalize (lg_sl ([.ref a, .int v]) ++ List.replicate (4 - (lg_sl ([.ref a, .int v])).length) Slot.unset).toArray = ls at hl ⊢
  have hl : lv_has ls 4 [(0, .ref a), (1, .int v)] := hl
  have hD : ∀ g : Nat → Int32, va_D (fun q => q = a) [(a, .inl (cA, n, .inl g))] := fun g => ⟨fun i j x y hi hj _ => by
    have h1 := (List.getElem?_eq_some_iff.mp hi).1
    have h2 := (List.getElem?_eq_some_iff.mp hj).1
    simp at h1 h2
    omega, fun k q hk => by
    have h1 := (List.getElem?_eq_some_iff.mp hk).1
    simp at h1
    subst h1
    simp at hk
    rw [← hk]⟩
  refine lv_iconst (v := 0) hx hb dJ7_fill_53178_0 (by decide) ?_
  refine lv_istore_n (lv' := [(2, .int 0), (0, .ref a), (1, .int v)]) hx hb dJ7_fill_53178_1 rfl hl (by decide) rfl (fun ls hl => ?_)
  refine lv_aload_n hx hb dJ7_fill_53178_2 rfl (lv_at hl 1 rfl) ?_
  refine va_alen hx hb hK hP 0 t0 (x := (n, .inl f)) rfl ht (v := nI n) rfl dJ7_fill_53178_3 ?_
  refine lv_istore_n (lv' := [(3, .int (nI n)), (2, .int 0), (0, .ref a), (1, .int v)]) hx hb dJ7_fill_53178_4 rfl hl (by decide) rfl (fun ls hl => ?_)
  have loop : ∀ (k i : Nat), k + i = n → ∀ (H : Heap) (locs : List Loc) (ls : Array Slot), va_P D vwCl [(a, .inl (cA, n, .inl (flN f v i)))] H → va_S (fun q => q = a) s.heap H locs → lv_has ls 4 [(0, .ref a), (1, .int v), (2, .int (nI i)), (3, .int (nI n))] →
      W p l e (headSpec [.code yJ7_fill_53178 cJ7_fill_53178 4 none] rm_0).room s m [Value.ref a, Value.int v].toArray below meth c H locs 0 0 (MQ below (fillQ D a cA n f v) [Value.ref a, Value.int v].toArray s 0 0 (fun q => q = a)) (F0 m 5 ls []) := by
    intro k
    induction k with
    | zero =>
      intro i hi H locs ls hP hS hl
      have hi : i = n := by omega
      subst hi
      refine lv_iload_n hx hb dJ7_fill_53178_5 rfl (lv_at hl 2 rfl) ?_
      refine lv_iload_n hx hb dJ7_fill_53178_6 rfl (lv_at hl 3 rfl) ?_
      refine lv_icmp_ge (tgt := 20) hx hb dJ7_fill_53178_7 (by decide) (fun hc => ?_) (fun hc => absurd (Int32.le_refl _) hc)
      exact W.vret hx hb hr (fun t ht _ => ⟨⟨(), rfl, trivial, vP_t ht hP⟩, hS.F ht⟩) hS.2.2 dJ7_fill_53178_20 (hlocks := hk)
    | succ k ih =>
      intro i hi H locs ls hP hS hl
      refine lv_iload_n hx hb dJ7_fill_53178_5 rfl (lv_at hl 2 rfl) ?_
      refine lv_iload_n hx hb dJ7_fill_53178_6 rfl (lv_at hl 3 rfl) ?_
      refine lv_icmp_ge (tgt := 20) hx hb dJ7_fill_53178_7 (by decide) (fun hc => absurd hc (nI_ge (by omega) hn)) (fun hc => ?_)
      refine lv_aload_n hx hb dJ7_fill_53178_10 rfl (lv_at hl 0 rfl) ?_
      refine lv_iload_n hx hb dJ7_fill_53178_11 rfl (lv_at hl 2 rfl) ?_
      refine lv_iload_n hx hb dJ7_fill_53178_12 rfl (lv_at hl 1 rfl) ?_
      refine va_iast hx hb hK hP (hD _) hS 0 t0 rfl ht (vp_in_nI (by omega) hn) dJ7_fill_53178_13 (fun H locs hP _ hS => ?_)
      have hP : va_P D vwCl [(a, .inl (cA, n, .inl (flN f v (i + 1))))] H := by
        rw [nI_clamp (show i < 2 ^ 31 by omega)] at hP
        rw [← flN_s]
        exact hP
      refine lv_iinc (v := nI (i + 1)) (lv' := [(2, .int (nI (i + 1))), (0, .ref a), (1, .int v), (3, .int (nI n))]) hx hb dJ7_fill_53178_14 hl (k := 2) rfl (nI_1 i) (by decide) rfl (fun ls hl => ?_)
      refine lv_goto (tgt := 5) hx hb dJ7_fill_53178_17 (by decide) ?_
      exact ih (i + 1) (by omega) H locs ls hP hS (lv_sub hl [1, 2, 0, 3] rfl)
  exact loop n 0 (by omega) _ _ ls (by rw [flN_0]; exact hP) hS (lv_sub hl [2, 3, 1, 0] rfl)
theorem fil_self (M : Mem) (p n : Nat) (v : Int32) : fil M p n v p = flN (M p) v n := by funext j; simp [fil, flN]
theorem fil_ne (M : Mem) {p q : Nat} (n : Nat) (v : Int32) (h : q ≠ p) : fil M p n v q = M q := by simp [fil, h]
section XF
variable {p : Program} {l : Launch} {e : Env} {R : Room} {s : State} {m : MethodId} {args : Array Value} {below : List Frame} {meth : Method} {c : Code} {H : Heap} {locs : List Loc} {cells slots : Nat} {Q : State → Prop}
variable {cc : ByteArray} {pc : Nat} {ls : Array Slot} {rest : List Value} {G : GG} {M : Mem} {h : Int64} {nL index : Nat} {own : String}
theorem x_fill (C : CallFix p m c cc nL s args TB own) (hE : EnvOK G s) (hP : va_P G.1 vwCl (wl G M h) H) (hS : va_S (Aw G) s.heap H locs) (hsz : ls.size = nL) (hl : Cond.methodLink own index yJ7_fill_53178 ∈ TB) {q n b : Nat} (hs : shp[q]? = some (.inr (0, n, b))) (hn : n < 2 ^ 31) (hR : 1 ≤ R.frames ∧ 23 ≤ R.locals ∧ cells ≤ R.cells ∧ slots ≤ R.slots) (hW : (rest.map fun v => v.category).sum ≤ 8) {v : Int32} (hdg : decode cc pc = .ok (.invokestatic index, 3))
    (k : ∀ (H1 : Heap) (locs1 : List Loc), va_P G.1 vwCl (wl G (fil M q n v) h) H1 → va_S (Aw G) s.heap H1 locs1 → W p l e R s m args below meth c H1 locs1 cells slots Q (F0 m (pc + 3) ls rest)) : W p l e R s m args below meth c H locs cells slots Q (F0 m pc ls (.int v :: .ref (xa G q) :: rest)) := by
  have hq : q < shp.length := (List.getElem?_eq_some_iff.mp hs).1
  have hw := wl_at (G := G) (M := M) (h := h) hs
  have hP1 : va_P G.1 vwCl [(xa G q, .inl (gI G, n, .inl (M q)))] H := by
    intro k x hk
    have h1 := (List.getElem?_eq_some_iff.mp hk).1
    simp at h1
    subst h1
    simp at hk
    subst hk
    exact hP q _ hw
  have hrun := va_runS (As := [.ref (xa G q), .int v]) (rest := rest) (g := F0 m pc ls (.int v :: .ref (xa G q) :: rest)) (e := e) (below := below) (meth := meth) (locs := locs) (cells := cells) (slots := slots) (R := R) (H := H) C (c_fill (l := l) (D := G.1) (tys := tysG G) (a := xa G q) (cA := gI G) (n := n) (f := M q) (v := v) (t0 := 0) rfl hn)
    ⟨⟨rfl, rfl, hR.1, hR.2.1, x_pay C.2.2.2.2 ykJ7_fill_53178.1, List.mem_singleton_self _, C.2.2.2.2 _ ykJ7_fill_53178.1, C.2.2.2.2 _ ykJ7_fill_53178.2.2.1, ykJ7_fill_53178.2.2.2.1, x_parn ykJ7_fill_53178.2.2.2.2, C.2.2.2.2 _ hl⟩, C.2.2.2.2 _ ykJ7_fill_53178.2.1⟩
    ⟨fun a U g mk q => ⟨q.1, va_K.moved (u := U) (U := U.calling g mk a) (Vm.Alike.refl U.vm) q.2.1, q.2.2⟩, fun U hU hW => ⟨rfl, va_K.moved hW.alike hE.2.1, by rw [hU]; exact hP1⟩⟩ rfl rfl hsz rfl (lv_room hW) hdg ⟨hR.2.2.1, hR.2.2.2⟩
  refine va_callv hrun hS (fun r _ h => ⟨q, hq, h⟩) (fun r h => ⟨q, hq, h⟩) (fun u t H1 locs1 ht _ hp hb _ hk1 hS1 => ?_)
  refine k H1 locs1 ?_ hS1
  intro j x hj
  obtain ⟨sj, hsj, rfl⟩ := wl_inv hj
  by_cases hjq : j = q
  · subst hjq
    rw [hs] at hsj
    cases hsj
    have h2 := hb 0 _ rfl
    rw [ht] at h2
    rw [fil_self]
    exact h2
  · rw [fil_ne M n v hjq]
    have h2 := hP j _ (wl_at (G := G) (M := M) (h := h) hsj)
    refine h2.kept (hk1 _ h2.lt (fun h9 => hjq (hE.1 j q (List.getElem?_eq_some_iff.mp hsj).1 hq h9)))
end XF
theorem it_q {S R : Type} {Zx : S → Prop} {P : R → Prop} {v : R} (h : OB (some v) P) : it_P Zx P (.inr v) := by have h1 := OB_some h; exact h1
theorem it_r {S R T : Type} {Wd : S → Prop} {Zx : R → Prop} {P : T → Prop} {v : T} (h : OB (some (.inr (.inr v))) (it_P Wd (it_P Zx P))) : P v := by have h1 := OB_some h; exact h1
def QVk (G : GG) (M : Mem) (P : Int64 → Prop) : Array Value → State → Outcome → State → Prop := va_Qv (S := Int64) (fun u => P u) (fun u t => va_P G.1 vwCl (wl G M u) t.heap) (Aw G)
theorem xm_vk {l : Launch} {y : MethodName} {cc : ByteArray} {maxL : Nat} {rm : Room} {G : GG} {av : List Value} {M : Mem} {h : Int64} {P : Int64 → Prop} (hy : plainName y.cls = true) (hn : (lg_sl av).length ≤ maxL)
    (body : ∀ (p : Program) (e : Env) (s : State) (m : MethodId) (args : Array Value) (below : List Frame) (meth : Method) (c : Code) (ls : Array Slot) (Q : State → Prop), CallFix p m c cc maxL s args TB y.cls → EnvOK G s → (∀ (h1 : Int64) (H : Heap) (locs : List Loc) (pc : Nat) (ls : Array Slot), P h1 → va_P G.1 vwCl (wl G M h1) H → va_S (Aw G) s.heap H locs → decode cc pc = .ok (.return_, 1) → W p l e rm s m args below meth c H locs 0 0 Q (F0 m pc ls [])) → va_P G.1 vwCl (wl G M h) s.heap → va_S (Aw G) s.heap s.heap [] → lv_has ls maxL (lv_args 0 av) →
      W p l e rm s m args below meth c s.heap [] 0 0 Q (F0 m 0 ls [])) : Met1 l y cc maxL none rm G av M h (QVk G M P) := by
  refine xm_start hy hn ?_
  intro p e s m below meth c ls C hr hk hE hP hS hl
  refine body p e s m _ below meth c ls _ C hE ?_ hP hS hl
  intro h1 H locs pc ls hp hP hS hdg
  exact W.vret C.1 C.2.1 hr (fun t ht _ => ⟨⟨h1, rfl, hp, vP_t ht hP⟩, hS.F ht⟩) hS.2.2 hdg (hlocks := hk)
theorem x_cvk {p : Program} {l : Launch} {e : Env} {R : Room} {s : State} {m : MethodId} {args : Array Value} {below : List Frame} {meth : Method} {c : Code} {H : Heap} {locs : List Loc} {cells slots : Nat} {Q : State → Prop} {pc : Nat} {ls : Array Slot} {rest st : List Value} {G : GG} {M : Mem} {a : Array Value} {P : Int64 → Prop} (hr : RunT p l e R s m args below meth c H locs cells slots G pc ls st rest (QVk G M P a)) (hS : va_S (Aw G) s.heap H locs)
    (k : ∀ (h1 : Int64) (H1 : Heap) (locs1 : List Loc), P h1 → va_P G.1 vwCl (wl G M h1) H1 → va_S (Aw G) s.heap H1 locs1 → W p l e R s m args below meth c H1 locs1 cells slots Q (F0 m (pc + 3) ls rest)) : W p l e R s m args below meth c H locs cells slots Q (F0 m pc ls st) := by
  refine va_callv hr hS (fun _ _ h => h) (fun _ h => h) (fun u t H1 locs1 ht _ hp hb _ _ hS1 => ?_)
  subst ht
  exact k u _ locs1 hp hb hS1
