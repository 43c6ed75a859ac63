def rm_X11_letters : Room := { frames := 3, cells := 0, slots := 0, locals := 69 }
set_option maxRecDepth 100000 in
set_option maxHeartbeats 8000000 in
theorem c_X11_letters {l : Launch} {G : GG} {a1 : Int64} {M : Mem} {h : Int64}  {P9 : (Int32 × Mem) → Prop} (hf : OB (f_X11_letters a1 M) P9) : Met1 l yX11_letters cX11_letters 3 (some .int) rm_X11_letters G [.ref (xa G 0), .long a1] M h (QI1 G h P9) := by
  unfold f_X11_letters at hf
  refine xm_i1 (by decide) (Nat.le_of_ble_eq_true rfl) ?_
  intro p e s m args below meth c ls Q C hE hret hP hS hl
  have C : CallFix p m c cX11_letters 3 s args TB RX11 := C
  have hx := C.1
  have hb := C.2.1
  have hl : lv_has ls 3 [(0, .ref (xa G 0)), (1, .long a1)] := hl
  refine lv_lload_n hx hb dX11_letters_0 rfl (lv_at hl 1 rfl) ?_
  refine x_cz0 (rest := []) (x_runS C hE hP hS ykX6_isTold lkX11_217 (c_X6_isTold (OB_bind hf)) (by decide) rfl hl.1 (Nat.le_of_ble_eq_true rfl) dX11_letters_1) hS (fun r1 H locs hf hP hS => ?_)
  refine lv_if_ne (tgt := 10) hx hb dX11_letters_4 (by decide) (fun hc => ?_) (fun hc => ?_)
  · have hf := (OB_t hf (bI_t hc))
    refine lv_aload_n hx hb dX11_letters_10 rfl (lv_at hl 0 rfl) ?_
    refine gfX11_35 C hE hP dX11_letters_11 ?_
    refine lv_lload_n hx hb dX11_letters_14 rfl (lv_at hl 1 rfl) ?_
    refine x_cz0 (rest := []) (x_runV C hE hP hS ykX6_hasRoomFor lkX11_221 sh10 rfl (c_X6_hasRoomFor (OB_bind hf)) (by decide) rfl hl.1 (Nat.le_of_ble_eq_true rfl) dX11_letters_15) hS (fun r2 H locs hf hP hS => ?_)
    refine xj (fun (zz : (Int32 × Mem)) => match zz with | (x7, M8) => ∀ (H : Heap) (locs : List Loc) (ls : Array Slot), va_P G.1 vwCl (wl G M8 h) H → va_S (Aw G) s.heap H locs → lv_has ls 3 [] → W p l e rm_X11_letters s m args below meth c H locs 0 0 Q (F0 m 34 ls [.int x7])) hf ?_ (fun hf => ?_)
    · rintro ⟨x7, M8⟩ hf H locs ls hP hS hl
      exact hret _ _ _ _ _ _ (OB_some hf) hP hS dX11_letters_34
    · skip
      refine lv_if_eq (tgt := 32) hx hb dX11_letters_18 (by decide) (fun hc => ?_) (fun hc => ?_)
      · have hf := (OB_f hf (bI_f hc))
        refine lv_bipush (v := -104) hx hb dX11_letters_32 (by decide) ?_
        exact (OB_some hf) _ _ _ hP hS (lv_sub hl [] rfl)
      · have hf := (OB_t hf (bI_t hc))
        refine lv_aload_n hx hb dX11_letters_21 rfl (lv_at hl 0 rfl) ?_
        refine gfX11_35 C hE hP dX11_letters_22 ?_
        refine lv_lload_n hx hb dX11_letters_25 rfl (lv_at hl 1 rfl) ?_
        refine x_ci1 (rest := []) (x_runV C hE hP hS ykX6_write lkX11_224 sh10 rfl (c_X6_write (OB_bind hf)) (by decide) rfl hl.1 (Nat.le_of_ble_eq_true rfl) dX11_letters_26) hS (fun r9 M10 H locs hf hP hS => ?_)
        refine lv_goto (tgt := 34) hx hb dX11_letters_29 (by decide) ?_
        exact (OB_some hf) _ _ _ hP hS (lv_sub hl [] rfl)
  · have hf := (OB_f hf (bI_f hc))
    refine lv_bipush (v := -102) hx hb dX11_letters_7 (by decide) ?_
    exact hret _ _ _ _ _ _ (OB_some hf) hP hS dX11_letters_9
def rm_X11_blank : Room := { frames := 1, cells := 0, slots := 0, locals := 21 }
set_option maxRecDepth 100000 in
set_option maxHeartbeats 8000000 in
theorem c_X11_blank {l : Launch} {G : GG}  {M : Mem} {h : Int64}  {P9 : (Int32 × Mem) → Prop} (hf : OB (f_X11_blank M) P9) : Met1 l yX11_blank cX11_blank 1 (some .int) rm_X11_blank G [.ref (xa G 0)] M h (QI1 G h P9) := by
  unfold f_X11_blank at hf
  refine xm_i1 (by decide) (Nat.le_of_ble_eq_true rfl) ?_
  intro p e s m args below meth c ls Q C hE hret hP hS hl
  have C : CallFix p m c cX11_blank 1 s args TB RX11 := C
  have hx := C.1
  have hb := C.2.1
  have hl : lv_has ls 1 [(0, .ref (xa G 0))] := hl
  refine lv_aload_n hx hb dX11_blank_0 rfl (lv_at hl 0 rfl) ?_
  refine gfX11_35 C hE hP dX11_blank_1 ?_
  refine x_ci1 (rest := []) (x_runV C hE hP hS ykX6_wipe lkX11_228 sh10 rfl (c_X6_wipe (OB_bind hf)) (by decide) rfl hl.1 (Nat.le_of_ble_eq_true rfl) dX11_blank_4) hS (fun r1 M2 H locs hf hP hS => ?_)
  exact hret _ _ _ _ _ _ (OB_some hf) hP hS dX11_blank_7
def rm_X11_fault : Room := { frames := 7, cells := 0, slots := 0, locals := 155 }
set_option maxRecDepth 100000 in
set_option maxHeartbeats 8000000 in
theorem c_X11_fault {l : Launch} {G : GG}  {M : Mem} {h : Int64}  {P9 : Int32 → Prop} (hf : OB (f_X11_fault M) P9) : Met1 l yX11_fault cX11_fault 1 (some .int) rm_X11_fault G [.ref (xa G 0)] M h (QI0 G M h P9) := by
  unfold f_X11_fault at hf
  refine xm_i0 (by decide) (Nat.le_of_ble_eq_true rfl) ?_
  intro p e s m args below meth c ls Q C hE hret hP hS hl
  have C : CallFix p m c cX11_fault 1 s args TB RX11 := C
  have hx := C.1
  have hb := C.2.1
  have hl : lv_has ls 1 [(0, .ref (xa G 0))] := hl
  refine lv_aload_n hx hb dX11_fault_0 rfl (lv_at hl 0 rfl) ?_
  refine gfX11_35 C hE hP dX11_fault_1 ?_
  refine x_ci0 (rest := []) (x_runV C hE hP hS ykX6_faultPlace lkX11_231 sh10 rfl (c_X6_faultPlace (OB_bind hf)) (by decide) rfl hl.1 (Nat.le_of_ble_eq_true rfl) dX11_fault_4) hS (fun r1 H locs hf hP hS => ?_)
  exact hret _ _ _ _ _ (OB_some hf) hP hS dX11_fault_7
def rm_X11_law : Room := { frames := 8, cells := 0, slots := 0, locals := 177 }
set_option maxRecDepth 100000 in
set_option maxHeartbeats 8000000 in
theorem c_X11_law {l : Launch} {G : GG} {a1 : Int32} {M : Mem} {h : Int64}  {P9 : (Int32 × Mem) → Prop} (hf : OB (f_X11_law a1 M) P9) : Met1 l yX11_law cX11_law 4 (some .int) rm_X11_law G [.ref (xa G 0), .int a1] M h (QI1 G h P9) := by
  unfold f_X11_law at hf
  refine xm_i1 (by decide) (Nat.le_of_ble_eq_true rfl) ?_
  intro p e s m args below meth c ls Q C hE hret hP hS hl
  have C : CallFix p m c cX11_law 4 s args TB RX11 := C
  have hx := C.1
  have hb := C.2.1
  have hl : lv_has ls 4 [(0, .ref (xa G 0)), (1, .int a1)] := hl
  refine lv_iload_n hx hb dX11_law_0 rfl (lv_at hl 1 rfl) ?_
  refine lv_iconst (v := 2) hx hb dX11_law_1 (by decide) ?_
  refine x_cz0 (rest := []) (x_runS C hE hP hS ykX11_within lkX11_94 (c_X11_within (OB_bind hf)) (by decide) rfl hl.1 (Nat.le_of_ble_eq_true rfl) dX11_law_2) hS (fun r1 H locs hf hP hS => ?_)
  refine lv_if_ne (tgt := 11) hx hb dX11_law_5 (by decide) (fun hc => ?_) (fun hc => ?_)
  · have hf := (OB_t hf (bI_t hc))
    refine lv_aload_n hx hb dX11_law_11 rfl (lv_at hl 0 rfl) ?_
    refine gfX11_35 C hE hP dX11_law_12 ?_
    refine x_cz0 (rest := []) (x_runV C hE hP hS ykX6_isLaw lkX11_234 sh10 rfl (c_X6_isLaw (OB_bind hf)) (by decide) rfl hl.1 (Nat.le_of_ble_eq_true rfl) dX11_law_15) hS (fun r2 H locs hf hP hS => ?_)
    refine lv_if_ne (tgt := 24) hx hb dX11_law_18 (by decide) (fun hc => ?_) (fun hc => ?_)
    · have hf := (OB_t hf (bI_t hc))
      refine lv_aload_n hx hb dX11_law_24 rfl (lv_at hl 0 rfl) ?_
      refine lv_iload_n hx hb dX11_law_25 rfl (lv_at hl 1 rfl) ?_
      refine x_cr (rest := []) (x_runV C hE hP hS ykX11_holderOf lkX11_237 sh0 rfl (c_X11_holderOf) (by decide) rfl hl.1 (Nat.le_of_ble_eq_true rfl) dX11_law_26) hS (fun H locs hP hS => ?_)
      refine lv_astore_n (lv' := [(2, .ref (xa G (hq a1))), (0, .ref (xa G 0)), (1, .int a1)]) hx hb dX11_law_29 rfl hl (by decide) rfl (fun ls hl => ?_)
      refine lv_aload_n hx hb dX11_law_30 rfl (lv_at hl 0 rfl) ?_
      refine x_cz0 (rest := []) (x_runV C hE hP hS ykX3_isFull lkX11_241 (sh_H (hq_ok a1)) rfl (c_X3_isFull (hq_ok a1) (OB_bind hf)) (by decide) rfl hl.1 (Nat.le_of_ble_eq_true rfl) dX11_law_31) hS (fun r3 H locs hf hP hS => ?_)
      refine lv_if_eq (tgt := 40) hx hb dX11_law_34 (by decide) (fun hc => ?_) (fun hc => ?_)
      · have hf := (OB_f hf (bI_f hc))
        refine lv_aload_n hx hb dX11_law_40 rfl (lv_at hl 0 rfl) ?_
        refine lv_aload_n hx hb dX11_law_41 rfl (lv_at hl 1 rfl) ?_
        refine gfX11_35 C hE hP dX11_law_42 ?_
        refine x_ci1 (rest := []) (x_runV C hE hP hS ykX3_read lkX11_242 (sh_H (hq_ok a1)) rfl (c_X3_read (hq_ok a1) (OB_bind hf)) (by decide) rfl hl.1 (Nat.le_of_ble_eq_true rfl) dX11_law_45) hS (fun r4 M5 H locs hf hP hS => ?_)
        refine lv_istore_n (lv' := [(3, .int r4), (2, .ref (xa G (hq a1))), (0, .ref (xa G 0)), (1, .int a1)]) hx hb dX11_law_48 rfl hl (by decide) rfl (fun ls hl => ?_)
        refine lv_aload_n hx hb dX11_law_49 rfl (lv_at hl 2 rfl) ?_
        refine gfX11_35 C hE hP dX11_law_50 ?_
        refine x_ci1 (rest := []) (x_runV C hE hP hS ykX6_wipe lkX11_228 sh10 rfl (c_X6_wipe (OB_bind hf)) (by decide) rfl hl.1 (Nat.le_of_ble_eq_true rfl) dX11_law_53) hS (fun r6 M7 H locs hf hP hS => ?_)
        refine lv_pop hx hb dX11_law_56 rfl ?_
        refine lv_iload_n hx hb dX11_law_57 rfl (lv_at hl 0 rfl) ?_
        exact hret _ _ _ _ _ _ (OB_some hf) hP hS dX11_law_58
      · have hf := (OB_t hf (bI_t hc))
        refine lv_bipush (v := -104) hx hb dX11_law_37 (by decide) ?_
        exact hret _ _ _ _ _ _ (OB_some hf) hP hS dX11_law_39
    · have hf := (OB_f hf (bI_f hc))
      refine lv_bipush (v := -103) hx hb dX11_law_21 (by decide) ?_
      exact hret _ _ _ _ _ _ (OB_some hf) hP hS dX11_law_23
  · have hf := (OB_f hf (bI_f hc))
    refine lv_bipush (v := -101) hx hb dX11_law_8 (by decide) ?_
    exact hret _ _ _ _ _ _ (OB_some hf) hP hS dX11_law_10
def rm_X11_strike : Room := { frames := 1, cells := 0, slots := 0, locals := 21 }
set_option maxRecDepth 100000 in
set_option maxHeartbeats 8000000 in
theorem c_X11_strike {l : Launch} {G : GG} {a1 : Int32} {M : Mem} {h : Int64}  {P9 : (Int32 × Mem) → Prop} (hf : OB (f_X11_strike a1 M) P9) : Met1 l yX11_strike cX11_strike 3 (some .int) rm_X11_strike G [.ref (xa G 0), .int a1] M h (QI1 G h P9) := by
  unfold f_X11_strike at hf
  refine xm_i1 (by decide) (Nat.le_of_ble_eq_true rfl) ?_
  intro p e s m args below meth c ls Q C hE hret hP hS hl
  have C : CallFix p m c cX11_strike 3 s args TB RX11 := C
  have hx := C.1
  have hb := C.2.1
  have hl : lv_has ls 3 [(0, .ref (xa G 0)), (1, .int a1)] := hl
  refine lv_iload_n hx hb dX11_strike_0 rfl (lv_at hl 1 rfl) ?_
  refine lv_iconst (v := 2) hx hb dX11_strike_1 (by decide) ?_
  refine x_cz0 (rest := []) (x_runS C hE hP hS ykX11_within lkX11_94 (c_X11_within (OB_bind hf)) (by decide) rfl hl.1 (Nat.le_of_ble_eq_true rfl) dX11_strike_2) hS (fun r1 H locs hf hP hS => ?_)
  refine lv_if_ne (tgt := 11) hx hb dX11_strike_5 (by decide) (fun hc => ?_) (fun hc => ?_)
  · have hf := (OB_t hf (bI_t hc))
    refine lv_aload_n hx hb dX11_strike_11 rfl (lv_at hl 0 rfl) ?_
    refine lv_iload_n hx hb dX11_strike_12 rfl (lv_at hl 1 rfl) ?_
    refine x_cr (rest := []) (x_runV C hE hP hS ykX11_holderOf lkX11_237 sh0 rfl (c_X11_holderOf) (by decide) rfl hl.1 (Nat.le_of_ble_eq_true rfl) dX11_strike_13) hS (fun H locs hP hS => ?_)
    refine lv_astore_n (lv' := [(2, .ref (xa G (hq a1))), (0, .ref (xa G 0)), (1, .int a1)]) hx hb dX11_strike_16 rfl hl (by decide) rfl (fun ls hl => ?_)
    refine lv_aload_n hx hb dX11_strike_17 rfl (lv_at hl 0 rfl) ?_
    refine x_ci0 (rest := []) (x_runV C hE hP hS ykX3_size lkX11_246 (sh_H (hq_ok a1)) rfl (c_X3_size (hq_ok a1) (OB_bind hf)) (by decide) rfl hl.1 (Nat.le_of_ble_eq_true rfl) dX11_strike_18) hS (fun r2 H locs hf hP hS => ?_)
    refine xj (fun (zz : (Int32 × Mem)) => match zz with | (x7, M8) => ∀ (H : Heap) (locs : List Loc) (ls : Array Slot), va_P G.1 vwCl (wl G M8 h) H → va_S (Aw G) s.heap H locs → lv_has ls 3 [] → W p l e rm_X11_strike s m args below meth c H locs 0 0 Q (F0 m 33 ls [.int x7])) hf ?_ (fun hf => ?_)
    · rintro ⟨x7, M8⟩ hf H locs ls hP hS hl
      exact hret _ _ _ _ _ _ (OB_some hf) hP hS dX11_strike_33
    · skip
      refine lv_if_ne (tgt := 29) hx hb dX11_strike_21 (by decide) (fun hc => ?_) (fun hc => ?_)
      · have hf := (OB_f hf hc)
        refine lv_aload_n hx hb dX11_strike_29 rfl (lv_at hl 0 rfl) ?_
        refine x_ci1 (rest := []) (x_runV C hE hP hS ykX3_removeLast lkX11_247 (sh_H (hq_ok a1)) rfl (c_X3_removeLast (hq_ok a1) (OB_bind hf)) (by decide) rfl hl.1 (Nat.le_of_ble_eq_true rfl) dX11_strike_30) hS (fun r9 M10 H locs hf hP hS => ?_)
        exact (OB_some hf) _ _ _ hP hS (lv_sub hl [] rfl)
      · have hf := (OB_t hf hc)
        refine lv_bipush (v := -103) hx hb dX11_strike_24 (by decide) ?_
        refine lv_goto (tgt := 33) hx hb dX11_strike_26 (by decide) ?_
        exact (OB_some hf) _ _ _ hP hS (lv_sub hl [] rfl)
  · have hf := (OB_f hf (bI_f hc))
    refine lv_bipush (v := -101) hx hb dX11_strike_8 (by decide) ?_
    exact hret _ _ _ _ _ _ (OB_some hf) hP hS dX11_strike_10
def rm_X11_distance : Room := { frames := 3, cells := 0, slots := 0, locals := 73 }
set_option maxRecDepth 100000 in
set_option maxHeartbeats 8000000 in
theorem c_X11_distance {l : Launch} {G : GG} {a1 : Int32} {a2 : Int32} {M : Mem} {h : Int64}  {P9 : (Int32 × Mem) → Prop} (hf : OB (f_X11_distance a1 a2 M) P9) : Met1 l yX11_distance cX11_distance 3 (some .int) rm_X11_distance G [.ref (xa G 0), .int a1, .int a2] M h (QI1 G h P9) := by
  unfold f_X11_distance at hf
  refine xm_i1 (by decide) (Nat.le_of_ble_eq_true rfl) ?_
  intro p e s m args below meth c ls Q C hE hret hP hS hl
  have C : CallFix p m c cX11_distance 3 s args TB RX11 := C
  have hx := C.1
  have hb := C.2.1
  have hl : lv_has ls 3 [(0, .ref (xa G 0)), (1, .int a1), (2, .int a2)] := hl
  refine lv_iload_n hx hb dX11_distance_0 rfl (lv_at hl 1 rfl) ?_
  refine lv_iload_n hx hb dX11_distance_1 rfl (lv_at hl 2 rfl) ?_
  refine x_cz0 (rest := []) (x_runS C hE hP hS ykX11_areTwoLands lkX11_155 (c_X11_areTwoLands (OB_bind hf)) (by decide) rfl hl.1 (Nat.le_of_ble_eq_true rfl) dX11_distance_2) hS (fun r1 H locs hf hP hS => ?_)
  refine xj (fun (zz : (Int32 × Mem)) => match zz with | (x6, M7) => ∀ (H : Heap) (locs : List Loc) (ls : Array Slot), va_P G.1 vwCl (wl G M7 h) H → va_S (Aw G) s.heap H locs → lv_has ls 3 [] → W p l e rm_X11_distance s m args below meth c H locs 0 0 Q (F0 m 22 ls [.int x6])) hf ?_ (fun hf => ?_)
  · rintro ⟨x6, M7⟩ hf H locs ls hP hS hl
    exact hret _ _ _ _ _ _ (OB_some hf) hP hS dX11_distance_22
  · skip
    refine lv_if_eq (tgt := 20) hx hb dX11_distance_5 (by decide) (fun hc => ?_) (fun hc => ?_)
    · have hf := (OB_f hf (bI_f hc))
      refine lv_bipush (v := -101) hx hb dX11_distance_20 (by decide) ?_
      exact (OB_some hf) _ _ _ hP hS (lv_sub hl [] rfl)
    · have hf := (OB_t hf (bI_t hc))
      refine lv_aload_n hx hb dX11_distance_8 rfl (lv_at hl 0 rfl) ?_
      refine gfX11_10 C hE hP dX11_distance_9 ?_
      refine lv_iload_n hx hb dX11_distance_12 rfl (lv_at hl 1 rfl) ?_
      refine lv_iload_n hx hb dX11_distance_13 rfl (lv_at hl 2 rfl) ?_
      refine x_ci1 (rest := []) (x_runV C hE hP hS ykX2_apart lkX11_248 sh1 rfl (c_X2_apart (OB_bind hf)) (by decide) rfl hl.1 (Nat.le_of_ble_eq_true rfl) dX11_distance_14) hS (fun r8 M9 H locs hf hP hS => ?_)
      refine lv_goto (tgt := 22) hx hb dX11_distance_17 (by decide) ?_
      exact (OB_some hf) _ _ _ hP hS (lv_sub hl [] rfl)
def rm_X11_beast : Room := { frames := 1, cells := 0, slots := 0, locals := 22 }
set_option maxRecDepth 100000 in
set_option maxHeartbeats 8000000 in
theorem c_X11_beast {l : Launch} {G : GG} {a1 : Int32} {a2 : Int32} {M : Mem} {h : Int64}  {P9 : (Int32 × Mem) → Prop} (hf : OB (f_X11_beast a1 a2 M) P9) : Met1 l yX11_beast cX11_beast 3 (some .int) rm_X11_beast G [.ref (xa G 0), .int a1, .int a2] M h (QI1 G h P9) := by
  unfold f_X11_beast at hf
  refine xm_i1 (by decide) (Nat.le_of_ble_eq_true rfl) ?_
  intro p e s m args below meth c ls Q C hE hret hP hS hl
  have C : CallFix p m c cX11_beast 3 s args TB RX11 := C
  have hx := C.1
  have hb := C.2.1
  have hl : lv_has ls 3 [(0, .ref (xa G 0)), (1, .int a1), (2, .int a2)] := hl
  refine lv_iload_n hx hb dX11_beast_0 rfl (lv_at hl 1 rfl) ?_
  refine lv_iconst (v := 1) hx hb dX11_beast_1 (by decide) ?_
  refine lv_icmp_lt (tgt := 20) hx hb dX11_beast_2 (by decide) (fun hc => ?_) (fun hc => ?_)
  · have hf := (OB_t hf hc)
    refine lv_bipush (v := -102) hx hb dX11_beast_20 (by decide) ?_
    exact hret _ _ _ _ _ _ (OB_some hf) hP hS dX11_beast_22
  · have hf := (OB_f hf hc)
    refine lv_iload_n hx hb dX11_beast_5 rfl (lv_at hl 1 rfl) ?_
    refine lv_bipush (v := 63) hx hb dX11_beast_6 (by decide) ?_
    refine lv_icmp_gt (tgt := 20) hx hb dX11_beast_8 (by decide) (fun hc => ?_) (fun hc => ?_)
    · have hf := (OB_t hf hc)
      refine lv_bipush (v := -102) hx hb dX11_beast_20 (by decide) ?_
      exact hret _ _ _ _ _ _ (OB_some hf) hP hS dX11_beast_22
    · have hf := (OB_f hf hc)
      refine lv_iload_n hx hb dX11_beast_11 rfl (lv_at hl 2 rfl) ?_
      refine lv_bipush (v := 10) hx hb dX11_beast_12 (by decide) ?_
      refine x_cz0 (rest := []) (x_runS C hE hP hS ykX11_within lkX11_94 (c_X11_within (OB_bind hf)) (by decide) rfl hl.1 (Nat.le_of_ble_eq_true rfl) dX11_beast_14) hS (fun r1 H locs hf hP hS => ?_)
      refine lv_if_ne (tgt := 23) hx hb dX11_beast_17 (by decide) (fun hc => ?_) (fun hc => ?_)
      · have hf := (OB_t hf (bI_t hc))
        refine lv_aload_n hx hb dX11_beast_23 rfl (lv_at hl 0 rfl) ?_
        refine gfX11_52 C hE hP dX11_beast_24 ?_
        refine x_cz0 (rest := []) (x_runV C hE hP hS ykX0_isFull lkX11_251 sh114 rfl (c_X0_isFull (OB_bind hf)) (by decide) rfl hl.1 (Nat.le_of_ble_eq_true rfl) dX11_beast_27) hS (fun r2 H locs hf hP hS => ?_)
        refine xj (fun (zz : (Int32 × Mem)) => match zz with | (x7, M8) => ∀ (H : Heap) (locs : List Loc) (ls : Array Slot), va_P G.1 vwCl (wl G M8 h) H → va_S (Aw G) s.heap H locs → lv_has ls 3 [] → W p l e rm_X11_beast s m args below meth c H locs 0 0 Q (F0 m 47 ls [.int x7])) hf ?_ (fun hf => ?_)
        · rintro ⟨x7, M8⟩ hf H locs ls hP hS hl
          exact hret _ _ _ _ _ _ (OB_some hf) hP hS dX11_beast_47
        · skip
          refine lv_if_eq (tgt := 38) hx hb dX11_beast_30 (by decide) (fun hc => ?_) (fun hc => ?_)
          · have hf := (OB_f hf (bI_f hc))
            refine lv_aload_n hx hb dX11_beast_38 rfl (lv_at hl 0 rfl) ?_
            refine gfX11_52 C hE hP dX11_beast_39 ?_
            refine lv_iload_n hx hb dX11_beast_42 rfl (lv_at hl 1 rfl) ?_
            refine lv_iload_n hx hb dX11_beast_43 rfl (lv_at hl 2 rfl) ?_
            refine x_ci1 (rest := []) (x_runV C hE hP hS ykX0_add lkX11_252 sh114 rfl (c_X0_add (OB_bind hf)) (by decide) rfl hl.1 (Nat.le_of_ble_eq_true rfl) dX11_beast_44) hS (fun r9 M10 H locs hf hP hS => ?_)
            exact (OB_some hf) _ _ _ hP hS (lv_sub hl [] rfl)
          · have hf := (OB_t hf (bI_t hc))
            refine lv_bipush (v := -104) hx hb dX11_beast_33 (by decide) ?_
            refine lv_goto (tgt := 47) hx hb dX11_beast_35 (by decide) ?_
            exact (OB_some hf) _ _ _ hP hS (lv_sub hl [] rfl)
      · have hf := (OB_f hf (bI_f hc))
        refine lv_bipush (v := -102) hx hb dX11_beast_20 (by decide) ?_
        exact hret _ _ _ _ _ _ (OB_some hf) hP hS dX11_beast_22
def rm_X11_crossing : Room := { frames := 3, cells := 0, slots := 0, locals := 76 }
set_option maxRecDepth 100000 in
set_option maxHeartbeats 8000000 in
theorem c_X11_crossing {l : Launch} {G : GG} {a1 : Int32} {a2 : Int32} {a3 : Int32} {a4 : Int32} {a5 : Int32} {M : Mem} {h : Int64}  {P9 : (Int32 × Mem) → Prop} (hf : OB (f_X11_crossing a1 a2 a3 a4 a5 M) P9) : Met1 l yX11_crossing cX11_crossing 7 (some .int) rm_X11_crossing G [.ref (xa G 0), .int a1, .int a2, .int a3, .int a4, .int a5] M h (QI1 G h P9) := by
  unfold f_X11_crossing at hf
  refine xm_i1 (by decide) (Nat.le_of_ble_eq_true rfl) ?_
  intro p e s m args below meth c ls Q C hE hret hP hS hl
  have C : CallFix p m c cX11_crossing 7 s args TB RX11 := C
  have hx := C.1
  have hb := C.2.1
  have hl : lv_has ls 7 [(0, .ref (xa G 0)), (1, .int a1), (2, .int a2), (3, .int a3), (4, .int a4), (5, .int a5)] := hl
  refine lv_iload_n hx hb dX11_crossing_0 rfl (lv_at hl 1 rfl) ?_
  refine lv_iconst (v := 2) hx hb dX11_crossing_1 (by decide) ?_
  refine x_cz0 (rest := []) (x_runS C hE hP hS ykX11_within lkX11_94 (c_X11_within (OB_bind hf)) (by decide) rfl hl.1 (Nat.le_of_ble_eq_true rfl) dX11_crossing_2) hS (fun r1 H locs hf hP hS => ?_)
  refine lv_if_eq (tgt := 31) hx hb dX11_crossing_5 (by decide) (fun hc => ?_) (fun hc => ?_)
  · have hf := (OB_f hf (bI_f hc))
    refine lv_bipush (v := -101) hx hb dX11_crossing_31 (by decide) ?_
    exact hret _ _ _ _ _ _ (OB_some hf) hP hS dX11_crossing_33
  · have hf := (OB_t hf (bI_t hc))
    refine lv_iload_n hx hb dX11_crossing_8 rfl (lv_at hl 2 rfl) ?_
    refine lv_aload_n hx hb dX11_crossing_9 rfl (lv_at hl 0 rfl) ?_
    refine gfX11_52 C hE hP dX11_crossing_10 ?_
    refine x_ci0 (rest := [.int a2]) (x_runV C hE hP hS ykX0_size lkX11_254 sh114 rfl (c_X0_size (OB_bind hf)) (by decide) rfl hl.1 (Nat.le_of_ble_eq_true rfl) dX11_crossing_13) hS (fun r2 H locs hf hP hS => ?_)
    refine x_cz0 (rest := []) (x_runS C hE hP hS ykX11_within lkX11_94 (c_X11_within (OB_bind hf)) (by decide) rfl hl.1 (Nat.le_of_ble_eq_true rfl) dX11_crossing_16) hS (fun r3 H locs hf hP hS => ?_)
    refine lv_if_eq (tgt := 31) hx hb dX11_crossing_19 (by decide) (fun hc => ?_) (fun hc => ?_)
    · have hf := (OB_f hf (bI_f hc))
      refine lv_bipush (v := -101) hx hb dX11_crossing_31 (by decide) ?_
      exact hret _ _ _ _ _ _ (OB_some hf) hP hS dX11_crossing_33
    · have hf := (OB_t hf (bI_t hc))
      refine lv_iload_n hx hb dX11_crossing_22 rfl (lv_at hl 3 rfl) ?_
      refine lv_iload hx hb dX11_crossing_23 (lv_at hl 4 rfl) ?_
      refine x_cz0 (rest := []) (x_runS C hE hP hS ykX11_areTwoLands lkX11_155 (c_X11_areTwoLands (OB_bind hf)) (by decide) rfl hl.1 (Nat.le_of_ble_eq_true rfl) dX11_crossing_25) hS (fun r4 H locs hf hP hS => ?_)
      refine lv_if_ne (tgt := 34) hx hb dX11_crossing_28 (by decide) (fun hc => ?_) (fun hc => ?_)
      · have hf := (OB_t hf (bI_t hc))
        refine lv_iload hx hb dX11_crossing_34 (lv_at hl 5 rfl) ?_
        refine lv_iconst (v := 2) hx hb dX11_crossing_36 (by decide) ?_
        refine x_cz0 (rest := []) (x_runS C hE hP hS ykX11_within lkX11_94 (c_X11_within (OB_bind hf)) (by decide) rfl hl.1 (Nat.le_of_ble_eq_true rfl) dX11_crossing_37) hS (fun r5 H locs hf hP hS => ?_)
        refine lv_if_ne (tgt := 46) hx hb dX11_crossing_40 (by decide) (fun hc => ?_) (fun hc => ?_)
        · have hf := (OB_t hf (bI_t hc))
          refine lv_aload_n hx hb dX11_crossing_46 rfl (lv_at hl 0 rfl) ?_
          refine lv_iload_n hx hb dX11_crossing_47 rfl (lv_at hl 1 rfl) ?_
          refine x_cr (rest := []) (x_runV C hE hP hS ykX11_holderOf lkX11_237 sh0 rfl (c_X11_holderOf) (by decide) rfl hl.1 (Nat.le_of_ble_eq_true rfl) dX11_crossing_48) hS (fun H locs hP hS => ?_)
          refine lv_astore (lv' := [(6, .ref (xa G (hq a1))), (0, .ref (xa G 0)), (1, .int a1), (2, .int a2), (3, .int a3), (4, .int a4), (5, .int a5)]) hx hb dX11_crossing_51 hl (by decide) rfl (fun ls hl => ?_)
          refine lv_aload hx hb dX11_crossing_53 (lv_at hl 0 rfl) ?_
          refine lv_aload_n hx hb dX11_crossing_55 rfl (lv_at hl 1 rfl) ?_
          refine gfX11_10 C hE hP dX11_crossing_56 ?_
          refine lv_iload_n hx hb dX11_crossing_59 rfl (lv_at hl 4 rfl) ?_
          refine lv_iload hx hb dX11_crossing_60 (lv_at hl 5 rfl) ?_
          refine x_ci1 (rest := [.ref (xa G (hq a1))]) (x_runV C hE hP hS ykX2_apart lkX11_248 sh1 rfl (c_X2_apart (OB_bind hf)) (by decide) rfl hl.1 (Nat.le_of_ble_eq_true rfl) dX11_crossing_62) hS (fun r6 M7 H locs hf hP hS => ?_)
          refine lv_aload_n hx hb dX11_crossing_65 rfl (lv_at hl 1 rfl) ?_
          refine gfX11_52 C hE hP dX11_crossing_66 ?_
          refine lv_iload_n hx hb dX11_crossing_69 rfl (lv_at hl 3 rfl) ?_
          refine x_ci0 (rest := [.int r6, .ref (xa G (hq a1))]) (x_runV C hE hP hS ykX0_ageOf lkX11_255 sh114 rfl (c_X0_ageOf (OB_bind hf)) (by decide) rfl hl.1 (Nat.le_of_ble_eq_true rfl) dX11_crossing_70) hS (fun r8 H locs hf hP hS => ?_)
          refine lv_aload_n hx hb dX11_crossing_73 rfl (lv_at hl 1 rfl) ?_
          refine gfX11_52 C hE hP dX11_crossing_74 ?_
          refine lv_iload_n hx hb dX11_crossing_77 rfl (lv_at hl 3 rfl) ?_
          refine x_ci0 (rest := [.int r8, .int r6, .ref (xa G (hq a1))]) (x_runV C hE hP hS ykX0_howManyLands lkX11_258 sh114 rfl (c_X0_howManyLands (OB_bind hf)) (by decide) rfl hl.1 (Nat.le_of_ble_eq_true rfl) dX11_crossing_78) hS (fun r9 H locs hf hP hS => ?_)
          refine x_cv1 (rest := []) (x_runV C hE hP hS ykX3_choose lkX11_261 (sh_H (hq_ok a1)) rfl (c_X3_choose (hq_ok a1) (OB_bind hf)) (by decide) rfl hl.1 (Nat.le_of_ble_eq_true rfl) dX11_crossing_81) hS (fun M10 H locs hf hP hS => ?_)
          refine lv_iload hx hb dX11_crossing_84 (lv_at hl 6 rfl) ?_
          refine xj (fun (x11 : Int32) => ∀ (H : Heap) (locs : List Loc) (ls : Array Slot), va_P G.1 vwCl (wl G M10 h) H → va_S (Aw G) s.heap H locs → lv_has ls 7 [] → W p l e rm_X11_crossing s m args below meth c H locs 0 0 Q (F0 m 102 ls [.int x11])) hf ?_ (fun hf => ?_)
          · rintro x11 hf H locs ls hP hS hl
            exact hret _ _ _ _ _ _ (OB_some hf) hP hS dX11_crossing_102
          · skip
            refine lv_if_ne (tgt := 97) hx hb dX11_crossing_86 (by decide) (fun hc => ?_) (fun hc => ?_)
            · have hf := (OB_f hf hc)
              refine lv_aload hx hb dX11_crossing_97 (lv_at hl 0 rfl) ?_
              refine gfX11_266 (hq_ok a1) C hE hP dX11_crossing_99 ?_
              exact (OB_some hf) _ _ _ hP hS (lv_sub hl [] rfl)
            · have hf := (OB_t hf hc)
              refine lv_aload hx hb dX11_crossing_89 (lv_at hl 0 rfl) ?_
              refine gfX11_264 (hq_ok a1) C hE hP dX11_crossing_91 ?_
              refine lv_goto (tgt := 102) hx hb dX11_crossing_94 (by decide) ?_
              exact (OB_some hf) _ _ _ hP hS (lv_sub hl [] rfl)
        · have hf := (OB_f hf (bI_f hc))
          refine lv_bipush (v := -102) hx hb dX11_crossing_43 (by decide) ?_
          exact hret _ _ _ _ _ _ (OB_some hf) hP hS dX11_crossing_45
      · have hf := (OB_f hf (bI_f hc))
        refine lv_bipush (v := -101) hx hb dX11_crossing_31 (by decide) ?_
        exact hret _ _ _ _ _ _ (OB_some hf) hP hS dX11_crossing_33
def rm_X11_spread : Room := { frames := 5, cells := 0, slots := 0, locals := 126 }
set_option maxRecDepth 100000 in
set_option maxHeartbeats 8000000 in
theorem c_X11_spread {l : Launch} {G : GG} {a1 : Int32} {a2 : Int32} {a3 : Int32} {M : Mem} {h : Int64}  {P9 : (Int32 × Mem) → Prop} (hf : OB (f_X11_spread a1 a2 a3 M) P9) : Met1 l yX11_spread cX11_spread 4 (some .int) rm_X11_spread G [.ref (xa G 0), .int a1, .int a2, .int a3] M h (QI1 G h P9) := by
  unfold f_X11_spread at hf
  refine xm_i1 (by decide) (Nat.le_of_ble_eq_true rfl) ?_
  intro p e s m args below meth c ls Q C hE hret hP hS hl
  have C : CallFix p m c cX11_spread 4 s args TB RX11 := C
  have hx := C.1
  have hb := C.2.1
  have hl : lv_has ls 4 [(0, .ref (xa G 0)), (1, .int a1), (2, .int a2), (3, .int a3)] := hl
  refine lv_iload_n hx hb dX11_spread_0 rfl (lv_at hl 1 rfl) ?_
  refine lv_iconst (v := 2) hx hb dX11_spread_1 (by decide) ?_
  refine x_cz0 (rest := []) (x_runS C hE hP hS ykX11_within lkX11_94 (c_X11_within (OB_bind hf)) (by decide) rfl hl.1 (Nat.le_of_ble_eq_true rfl) dX11_spread_2) hS (fun r1 H locs hf hP hS => ?_)
  refine lv_if_eq (tgt := 22) hx hb dX11_spread_5 (by decide) (fun hc => ?_) (fun hc => ?_)
  · have hf := (OB_f hf (bI_f hc))
    refine lv_bipush (v := -101) hx hb dX11_spread_22 (by decide) ?_
    exact hret _ _ _ _ _ _ (OB_some hf) hP hS dX11_spread_24
  · have hf := (OB_t hf (bI_t hc))
    refine lv_iload_n hx hb dX11_spread_8 rfl (lv_at hl 2 rfl) ?_
    refine lv_aload_n hx hb dX11_spread_9 rfl (lv_at hl 0 rfl) ?_
    refine gfX11_52 C hE hP dX11_spread_10 ?_
    refine x_ci0 (rest := [.int a2]) (x_runV C hE hP hS ykX0_size lkX11_254 sh114 rfl (c_X0_size (OB_bind hf)) (by decide) rfl hl.1 (Nat.le_of_ble_eq_true rfl) dX11_spread_13) hS (fun r2 H locs hf hP hS => ?_)
    refine x_cz0 (rest := []) (x_runS C hE hP hS ykX11_within lkX11_94 (c_X11_within (OB_bind hf)) (by decide) rfl hl.1 (Nat.le_of_ble_eq_true rfl) dX11_spread_16) hS (fun r3 H locs hf hP hS => ?_)
    refine lv_if_ne (tgt := 25) hx hb dX11_spread_19 (by decide) (fun hc => ?_) (fun hc => ?_)
    · have hf := (OB_t hf (bI_t hc))
      refine lv_iload_n hx hb dX11_spread_25 rfl (lv_at hl 3 rfl) ?_
      refine lv_iconst (v := 2) hx hb dX11_spread_26 (by decide) ?_
      refine x_cz0 (rest := []) (x_runS C hE hP hS ykX11_within lkX11_94 (c_X11_within (OB_bind hf)) (by decide) rfl hl.1 (Nat.le_of_ble_eq_true rfl) dX11_spread_27) hS (fun r4 H locs hf hP hS => ?_)
      refine lv_if_ne (tgt := 36) hx hb dX11_spread_30 (by decide) (fun hc => ?_) (fun hc => ?_)
      · have hf := (OB_t hf (bI_t hc))
        refine lv_aload_n hx hb dX11_spread_36 rfl (lv_at hl 0 rfl) ?_
        refine gfX11_61 C hE hP dX11_spread_37 ?_
        refine lv_aload_n hx hb dX11_spread_40 rfl (lv_at hl 0 rfl) ?_
        refine lv_iload_n hx hb dX11_spread_41 rfl (lv_at hl 1 rfl) ?_
        refine x_cr (rest := [.ref (xa G 117)]) (x_runV C hE hP hS ykX11_holderOf lkX11_237 sh0 rfl (c_X11_holderOf) (by decide) rfl hl.1 (Nat.le_of_ble_eq_true rfl) dX11_spread_42) hS (fun H locs hP hS => ?_)
        refine lv_iload_n hx hb dX11_spread_45 rfl (lv_at hl 2 rfl) ?_
        refine x_ci1 (rest := []) (x_runV C hE hP hS ykX8_solve lkX11_269 sh117 rfl (c_X8_solve (hq_ok a1) (OB_bind hf)) (by decide) rfl hl.1 (Nat.le_of_ble_eq_true rfl) dX11_spread_46) hS (fun r5 M6 H locs hf hP hS => ?_)
        refine lv_pop hx hb dX11_spread_49 rfl ?_
        refine lv_iload_n hx hb dX11_spread_50 rfl (lv_at hl 3 rfl) ?_
        refine xj (fun (x7 : Int32) => ∀ (H : Heap) (locs : List Loc) (ls : Array Slot), va_P G.1 vwCl (wl G M6 h) H → va_S (Aw G) s.heap H locs → lv_has ls 4 [] → W p l e rm_X11_spread s m args below meth c H locs 0 0 Q (F0 m 71 ls [.int x7])) hf ?_ (fun hf => ?_)
        · rintro x7 hf H locs ls hP hS hl
          exact hret _ _ _ _ _ _ (OB_some hf) hP hS dX11_spread_71
        · skip
          refine lv_if_ne (tgt := 64) hx hb dX11_spread_51 (by decide) (fun hc => ?_) (fun hc => ?_)
          · have hf := (OB_f hf hc)
            refine lv_aload_n hx hb dX11_spread_64 rfl (lv_at hl 0 rfl) ?_
            refine gfX11_61 C hE hP dX11_spread_65 ?_
            refine gfX11_274 C hE hP dX11_spread_68 ?_
            exact (OB_some hf) _ _ _ hP hS (lv_sub hl [] rfl)
          · have hf := (OB_t hf hc)
            refine lv_aload_n hx hb dX11_spread_54 rfl (lv_at hl 0 rfl) ?_
            refine gfX11_61 C hE hP dX11_spread_55 ?_
            refine gfX11_273 C hE hP dX11_spread_58 ?_
            refine lv_goto (tgt := 71) hx hb dX11_spread_61 (by decide) ?_
            exact (OB_some hf) _ _ _ hP hS (lv_sub hl [] rfl)
      · have hf := (OB_f hf (bI_f hc))
        refine lv_bipush (v := -102) hx hb dX11_spread_33 (by decide) ?_
        exact hret _ _ _ _ _ _ (OB_some hf) hP hS dX11_spread_35
    · have hf := (OB_f hf (bI_f hc))
      refine lv_bipush (v := -101) hx hb dX11_spread_22 (by decide) ?_
      exact hret _ _ _ _ _ _ (OB_some hf) hP hS dX11_spread_24
def rm_X11_unlike : Room := { frames := 6, cells := 0, slots := 0, locals := 151 }
set_option maxRecDepth 100000 in
set_option maxHeartbeats 8000000 in
theorem c_X11_unlike {l : Launch} {G : GG} {a1 : Int32} {M : Mem} {h : Int64}  {P9 : (Int32 × Mem) → Prop} (hf : OB (f_X11_unlike a1 M) P9) : Met1 l yX11_unlike cX11_unlike 7 (some .int) rm_X11_unlike G [.ref (xa G 0), .int a1] M h (QI1 G h P9) := by
  unfold f_X11_unlike at hf
  refine xm_i1 (by decide) (Nat.le_of_ble_eq_true rfl) ?_
  intro p e s m args below meth c ls Q C hE hret hP hS hl
  have C : CallFix p m c cX11_unlike 7 s args TB RX11 := C
  have hx := C.1
  have hb := C.2.1
  have hl : lv_has ls 7 [(0, .ref (xa G 0)), (1, .int a1)] := hl
  refine lv_iload_n hx hb dX11_unlike_0 rfl (lv_at hl 1 rfl) ?_
  refine lv_iconst (v := 2) hx hb dX11_unlike_1 (by decide) ?_
  refine x_cz0 (rest := []) (x_runS C hE hP hS ykX11_within lkX11_94 (c_X11_within (OB_bind hf)) (by decide) rfl hl.1 (Nat.le_of_ble_eq_true rfl) dX11_unlike_2) hS (fun r1 H locs hf hP hS => ?_)
  refine lv_if_ne (tgt := 11) hx hb dX11_unlike_5 (by decide) (fun hc => ?_) (fun hc => ?_)
  · have hf := (OB_t hf (bI_t hc))
    refine lv_iconst (v := 0) hx hb dX11_unlike_11 (by decide) ?_
    refine lv_istore_n (lv' := [(2, .int 0), (0, .ref (xa G 0)), (1, .int a1)]) hx hb dX11_unlike_12 rfl hl (by decide) rfl (fun ls hl => ?_)
    refine lv_iconst (v := -1) hx hb dX11_unlike_13 (by decide) ?_
    refine lv_istore_n (lv' := [(3, .int (-1)), (2, .int 0), (0, .ref (xa G 0)), (1, .int a1)]) hx hb dX11_unlike_14 rfl hl (by decide) rfl (fun ls hl => ?_)
    refine lv_iconst (v := 0) hx hb dX11_unlike_15 (by decide) ?_
    refine lv_istore (lv' := [(4, .int 0), (3, .int (-1)), (2, .int 0), (0, .ref (xa G 0)), (1, .int a1)]) hx hb dX11_unlike_16 hl (by decide) rfl (fun ls hl => ?_)
    refine lv_iconst (v := 0) hx hb dX11_unlike_18 (by decide) ?_
    refine lv_istore (lv' := [(5, .int 0), (4, .int 0), (3, .int (-1)), (2, .int 0), (0, .ref (xa G 0)), (1, .int a1)]) hx hb dX11_unlike_19 hl (by decide) rfl (fun ls hl => ?_)
    refine xj (fun (zz : (Int32 × Int32 × Mem)) => match zz with | (x40, x41, M42) => ∀ (H : Heap) (locs : List Loc) (ls : Array Slot), va_P G.1 vwCl (wl G M42 h) H → va_S (Aw G) s.heap H locs → lv_has ls 7 [(1, .int a1), (2, .int x40), (3, .int x41)] → W p l e rm_X11_unlike s m args below meth c H locs 0 0 Q (F0 m 80 ls [])) hf ?_ (fun hf => ?_)
    · rintro ⟨x40, x41, M42⟩ hf H locs ls hP hS hl
      refine lv_iload_n hx hb dX11_unlike_80 rfl (lv_at hl 0 rfl) ?_
      refine xj (fun (x49 : Int32) => ∀ (H : Heap) (locs : List Loc) (ls : Array Slot), va_P G.1 vwCl (wl G M42 h) H → va_S (Aw G) s.heap H locs → lv_has ls 7 [] → W p l e rm_X11_unlike s m args below meth c H locs 0 0 Q (F0 m 89 ls [.int x49])) hf ?_ (fun hf => ?_)
      · rintro x49 hf H locs ls hP hS hl
        exact hret _ _ _ _ _ _ (OB_some hf) hP hS dX11_unlike_89
      · skip
        refine lv_if_ne (tgt := 88) hx hb dX11_unlike_81 (by decide) (fun hc => ?_) (fun hc => ?_)
        · have hf := (OB_f hf hc)
          refine lv_iload_n hx hb dX11_unlike_88 rfl (lv_at hl 2 rfl) ?_
          exact (OB_some hf) _ _ _ hP hS (lv_sub hl [] rfl)
        · have hf := (OB_t hf hc)
          refine lv_iload_n hx hb dX11_unlike_84 rfl (lv_at hl 1 rfl) ?_
          refine lv_goto (tgt := 89) hx hb dX11_unlike_85 (by decide) ?_
          exact (OB_some hf) _ _ _ hP hS (lv_sub hl [] rfl)
    · refine (it_W (fun (zz : (Int32 × Int32 × Int32 × Int32 × Mem)) => match zz with | (x35, x36, x37, x38, M39) => ∀ (H : Heap) (locs : List Loc) (ls : Array Slot), va_P G.1 vwCl (wl G M39 h) H → va_S (Aw G) s.heap H locs → lv_has ls 7 [(0, .ref (xa G 0)), (1, .int a1), (2, .int x35), (3, .int x36), (4, .int x37), (5, .int x38)] → W p l e rm_X11_unlike s m args below meth c H locs 0 0 Q (F0 m 21 ls [])) hf ?_) _ _ _ hP hS (lv_sub hl [4, 5, 3, 2, 1, 0] rfl)
      rintro ⟨x35, x36, x37, x38, M39⟩ hf H locs ls hP hS hl
      unfold f_X11_unlike_b21 at hf
      refine lv_iload hx hb dX11_unlike_21 (lv_at hl 5 rfl) ?_
      refine lv_aload_n hx hb dX11_unlike_23 rfl (lv_at hl 0 rfl) ?_
      refine gfX11_52 C hE hP dX11_unlike_24 ?_
      refine x_ci0 (rest := [.int x38]) (x_runV C hE hP hS ykX0_size lkX11_254 sh114 rfl (c_X0_size (OB_bind hf)) (by decide) rfl hl.1 (Nat.le_of_ble_eq_true rfl) dX11_unlike_27) hS (fun r43 H locs hf hP hS => ?_)
      refine lv_icmp_ge (tgt := 80) hx hb dX11_unlike_30 (by decide) (fun hc => ?_) (fun hc => ?_)
      · have hf := (OB_t hf hc)
        exact (it_e hf) _ _ _ hP hS (lv_sub hl [1, 2, 3] rfl)
      · have hf := (OB_f hf hc)
        refine lv_aload_n hx hb dX11_unlike_33 rfl (lv_at hl 0 rfl) ?_
        refine gfX11_61 C hE hP dX11_unlike_34 ?_
        refine lv_aload_n hx hb dX11_unlike_37 rfl (lv_at hl 0 rfl) ?_
        refine gfX11_42 C hE hP dX11_unlike_38 ?_
        refine lv_aload_n hx hb dX11_unlike_41 rfl (lv_at hl 0 rfl) ?_
        refine gfX11_46 C hE hP dX11_unlike_42 ?_
        refine lv_iload hx hb dX11_unlike_45 (lv_at hl 5 rfl) ?_
        refine x_ci1 (rest := []) (x_runV C hE hP hS ykX8_differenceOf lkX11_277 sh117 rfl (c_X8_differenceOf isH0 isH1 (OB_bind hf)) (by decide) rfl hl.1 (Nat.le_of_ble_eq_true rfl) dX11_unlike_47) hS (fun r44 M45 H locs hf hP hS => ?_)
        refine lv_istore (lv' := [(6, .int r44), (0, .ref (xa G 0)), (1, .int a1), (2, .int x35), (3, .int x36), (4, .int x37), (5, .int x38)]) hx hb dX11_unlike_50 hl (by decide) rfl (fun ls hl => ?_)
        refine lv_iload hx hb dX11_unlike_52 (lv_at hl 0 rfl) ?_
        refine xj (fun (x46 : Int32) => ∀ (H : Heap) (locs : List Loc) (ls : Array Slot), va_P G.1 vwCl (wl G M45 h) H → va_S (Aw G) s.heap H locs → lv_has ls 7 [(0, .ref (xa G 0)), (1, .int a1), (2, .int x46), (3, .int x36), (4, .int x37), (5, .int x38), (6, .int r44)] → W p l e rm_X11_unlike s m args below meth c H locs 0 0 Q (F0 m 60 ls [])) hf ?_ (fun hf => ?_)
        · rintro x46 hf H locs ls hP hS hl
          refine lv_iload hx hb dX11_unlike_60 (lv_at hl 6 rfl) ?_
          refine lv_iload hx hb dX11_unlike_62 (lv_at hl 4 rfl) ?_
          refine xj (fun (zz : (Int32 × Int32)) => match zz with | (x47, x48) => ∀ (H : Heap) (locs : List Loc) (ls : Array Slot), va_P G.1 vwCl (wl G M45 h) H → va_S (Aw G) s.heap H locs → lv_has ls 7 [(0, .ref (xa G 0)), (1, .int a1), (2, .int x46), (3, .int x47), (4, .int x48), (5, .int x38)] → W p l e rm_X11_unlike s m args below meth c H locs 0 0 Q (F0 m 74 ls [])) hf ?_ (fun hf => ?_)
          · rintro ⟨x47, x48⟩ hf H locs ls hP hS hl
            refine lv_iinc (v := (x38 + 1)) (lv' := [(5, .int (x38 + 1)), (0, .ref (xa G 0)), (1, .int a1), (2, .int x46), (3, .int x47), (4, .int x48)]) hx hb dX11_unlike_74 hl (k := 5) rfl rfl (by decide) rfl (fun ls hl => ?_)
            refine lv_goto (tgt := 21) hx hb dX11_unlike_77 (by decide) ?_
            exact (it_c hf) _ _ _ hP hS (lv_sub hl [1, 2, 3, 4, 5, 0] rfl)
          · skip
            refine lv_icmp_le (tgt := 74) hx hb dX11_unlike_64 (by decide) (fun hc => ?_) (fun hc => ?_)
            · have hf := (OB_t hf hc)
              exact (OB_some hf) _ _ _ hP hS (lv_sub hl [0, 1, 2, 3, 4, 5] rfl)
            · have hf := (OB_f hf hc)
              refine lv_iload hx hb dX11_unlike_67 (lv_at hl 6 rfl) ?_
              refine lv_istore (lv' := [(4, .int r44), (0, .ref (xa G 0)), (1, .int a1), (2, .int x46), (3, .int x36), (5, .int x38), (6, .int r44)]) hx hb dX11_unlike_69 hl (by decide) rfl (fun ls hl => ?_)
              refine lv_iload hx hb dX11_unlike_71 (lv_at hl 5 rfl) ?_
              refine lv_istore_n (lv' := [(3, .int x38), (4, .int r44), (0, .ref (xa G 0)), (1, .int a1), (2, .int x46), (5, .int x38), (6, .int r44)]) hx hb dX11_unlike_73 rfl hl (by decide) rfl (fun ls hl => ?_)
              exact (OB_some hf) _ _ _ hP hS (lv_sub hl [2, 3, 4, 0, 1, 5] rfl)
        · skip
          refine lv_if_le (tgt := 60) hx hb dX11_unlike_54 (by decide) (fun hc => ?_) (fun hc => ?_)
          · have hf := (OB_t hf hc)
            exact (OB_some hf) _ _ _ hP hS (lv_sub hl [1, 2, 3, 4, 5, 6, 0] rfl)
          · have hf := (OB_f hf hc)
            refine lv_iinc (v := (x35 + 1)) (lv' := [(2, .int (x35 + 1)), (6, .int r44), (0, .ref (xa G 0)), (1, .int a1), (3, .int x36), (4, .int x37), (5, .int x38)]) hx hb dX11_unlike_57 hl (k := 3) rfl rfl (by decide) rfl (fun ls hl => ?_)
            exact (OB_some hf) _ _ _ hP hS (lv_sub hl [2, 3, 0, 4, 5, 6, 1] rfl)
  · have hf := (OB_f hf (bI_f hc))
    refine lv_bipush (v := -102) hx hb dX11_unlike_8 (by decide) ?_
    exact hret _ _ _ _ _ _ (OB_some hf) hP hS dX11_unlike_10
def rm_X11_speed : Room := { frames := 1, cells := 0, slots := 0, locals := 22 }
set_option maxRecDepth 100000 in
set_option maxHeartbeats 8000000 in
theorem c_X11_speed {l : Launch} {G : GG} {a1 : Int32} {M : Mem} {h : Int64}  {P9 : (Int32 × Mem) → Prop} (hf : OB (f_X11_speed a1 M) P9) : Met1 l yX11_speed cX11_speed 2 (some .int) rm_X11_speed G [.ref (xa G 0), .int a1] M h (QI1 G h P9) := by
  unfold f_X11_speed at hf
  refine xm_i1 (by decide) (Nat.le_of_ble_eq_true rfl) ?_
  intro p e s m args below meth c ls Q C hE hret hP hS hl
  have C : CallFix p m c cX11_speed 2 s args TB RX11 := C
  have hx := C.1
  have hb := C.2.1
  have hl : lv_has ls 2 [(0, .ref (xa G 0)), (1, .int a1)] := hl
  refine lv_iload_n hx hb dX11_speed_0 rfl (lv_at hl 1 rfl) ?_
  refine lv_bipush (v := 8) hx hb dX11_speed_1 (by decide) ?_
  refine x_cz0 (rest := []) (x_runS C hE hP hS ykX11_within lkX11_94 (c_X11_within (OB_bind hf)) (by decide) rfl hl.1 (Nat.le_of_ble_eq_true rfl) dX11_speed_3) hS (fun r1 H locs hf hP hS => ?_)
  refine xj (fun (zz : (Int32 × Mem)) => match zz with | (x6, M7) => ∀ (H : Heap) (locs : List Loc) (ls : Array Slot), va_P G.1 vwCl (wl G M7 h) H → va_S (Aw G) s.heap H locs → lv_has ls 2 [] → W p l e rm_X11_speed s m args below meth c H locs 0 0 Q (F0 m 22 ls [.int x6])) hf ?_ (fun hf => ?_)
  · rintro ⟨x6, M7⟩ hf H locs ls hP hS hl
    exact hret _ _ _ _ _ _ (OB_some hf) hP hS dX11_speed_22
  · skip
    refine lv_if_eq (tgt := 20) hx hb dX11_speed_6 (by decide) (fun hc => ?_) (fun hc => ?_)
    · have hf := (OB_f hf (bI_f hc))
      refine lv_bipush (v := -102) hx hb dX11_speed_20 (by decide) ?_
      exact (OB_some hf) _ _ _ hP hS (lv_sub hl [] rfl)
    · have hf := (OB_t hf (bI_t hc))
      refine lv_aload_n hx hb dX11_speed_9 rfl (lv_at hl 0 rfl) ?_
      refine gfX11_70 C hE hP dX11_speed_10 ?_
      refine lv_iload_n hx hb dX11_speed_13 rfl (lv_at hl 1 rfl) ?_
      refine x_ci1 (rest := []) (x_runV C hE hP hS ykX9_changeSpeed lkX11_281 sh120 rfl (c_X9_changeSpeed (OB_bind hf)) (by decide) rfl hl.1 (Nat.le_of_ble_eq_true rfl) dX11_speed_14) hS (fun r8 M9 H locs hf hP hS => ?_)
      refine lv_goto (tgt := 22) hx hb dX11_speed_17 (by decide) ?_
      exact (OB_some hf) _ _ _ hP hS (lv_sub hl [] rfl)
def rm_X11_claim : Room := { frames := 3, cells := 0, slots := 0, locals := 62 }
set_option maxRecDepth 100000 in
set_option maxHeartbeats 8000000 in
theorem c_X11_claim {l : Launch} {G : GG} {a1 : Int32} {a2 : Int32} {a3 : Int32} {a4 : Bool} {a5 : Int32} {M : Mem} {h : Int64}  {P9 : (Int32 × Mem) → Prop} (hf : OB (f_X11_claim a1 a2 a3 a4 a5 M) P9) : Met1 l yX11_claim cX11_claim 6 (some .int) rm_X11_claim G [.ref (xa G 0), .int a1, .int a2, .int a3, .int (bI a4), .int a5] M h (QI1 G h P9) := by
  unfold f_X11_claim at hf
  refine xm_i1 (by decide) (Nat.le_of_ble_eq_true rfl) ?_
  intro p e s m args below meth c ls Q C hE hret hP hS hl
  have C : CallFix p m c cX11_claim 6 s args TB RX11 := C
  have hx := C.1
  have hb := C.2.1
  have hl : lv_has ls 6 [(0, .ref (xa G 0)), (1, .int a1), (2, .int a2), (3, .int a3), (4, .int (bI a4)), (5, .int a5)] := hl
  refine lv_iload_n hx hb dX11_claim_0 rfl (lv_at hl 1 rfl) ?_
  refine lv_iload_n hx hb dX11_claim_1 rfl (lv_at hl 2 rfl) ?_
  refine x_cz0 (rest := []) (x_runS C hE hP hS ykX11_areTwoLands lkX11_155 (c_X11_areTwoLands (OB_bind hf)) (by decide) rfl hl.1 (Nat.le_of_ble_eq_true rfl) dX11_claim_2) hS (fun r1 H locs hf hP hS => ?_)
  refine lv_if_ne (tgt := 11) hx hb dX11_claim_5 (by decide) (fun hc => ?_) (fun hc => ?_)
  · have hf := (OB_t hf (bI_t hc))
    refine lv_iload_n hx hb dX11_claim_11 rfl (lv_at hl 3 rfl) ?_
    refine lv_bipush (v := 10) hx hb dX11_claim_12 (by decide) ?_
    refine x_cz0 (rest := []) (x_runS C hE hP hS ykX11_within lkX11_94 (c_X11_within (OB_bind hf)) (by decide) rfl hl.1 (Nat.le_of_ble_eq_true rfl) dX11_claim_14) hS (fun r2 H locs hf hP hS => ?_)
    refine lv_if_eq (tgt := 33) hx hb dX11_claim_17 (by decide) (fun hc => ?_) (fun hc => ?_)
    · have hf := (OB_f hf (bI_f hc))
      refine lv_bipush (v := -102) hx hb dX11_claim_33 (by decide) ?_
      exact hret _ _ _ _ _ _ (OB_some hf) hP hS dX11_claim_35
    · have hf := (OB_t hf (bI_t hc))
      refine lv_iload hx hb dX11_claim_20 (lv_at hl 5 rfl) ?_
      refine lv_iconst (v := 1) hx hb dX11_claim_22 (by decide) ?_
      refine lv_icmp_lt (tgt := 33) hx hb dX11_claim_23 (by decide) (fun hc => ?_) (fun hc => ?_)
      · have hf := (OB_t hf hc)
        refine lv_bipush (v := -102) hx hb dX11_claim_33 (by decide) ?_
        exact hret _ _ _ _ _ _ (OB_some hf) hP hS dX11_claim_35
      · have hf := (OB_f hf hc)
        refine lv_iload hx hb dX11_claim_26 (lv_at hl 5 rfl) ?_
        refine lv_bipush (v := 99) hx hb dX11_claim_28 (by decide) ?_
        refine lv_icmp_le (tgt := 36) hx hb dX11_claim_30 (by decide) (fun hc => ?_) (fun hc => ?_)
        · have hf := (OB_t hf hc)
          refine lv_aload_n hx hb dX11_claim_36 rfl (lv_at hl 0 rfl) ?_
          refine gfX11_70 C hE hP dX11_claim_37 ?_
          refine x_cz0 (rest := []) (x_runV C hE hP hS ykX9_isFull lkX11_284 sh120 rfl (c_X9_isFull (OB_bind hf)) (by decide) rfl hl.1 (Nat.le_of_ble_eq_true rfl) dX11_claim_40) hS (fun r3 H locs hf hP hS => ?_)
          refine xj (fun (zz : (Int32 × Mem)) => match zz with | (x8, M9) => ∀ (H : Heap) (locs : List Loc) (ls : Array Slot), va_P G.1 vwCl (wl G M9 h) H → va_S (Aw G) s.heap H locs → lv_has ls 6 [] → W p l e rm_X11_claim s m args below meth c H locs 0 0 Q (F0 m 65 ls [.int x8])) hf ?_ (fun hf => ?_)
          · rintro ⟨x8, M9⟩ hf H locs ls hP hS hl
            exact hret _ _ _ _ _ _ (OB_some hf) hP hS dX11_claim_65
          · skip
            refine lv_if_eq (tgt := 51) hx hb dX11_claim_43 (by decide) (fun hc => ?_) (fun hc => ?_)
            · have hf := (OB_f hf (bI_f hc))
              refine lv_aload_n hx hb dX11_claim_51 rfl (lv_at hl 0 rfl) ?_
              refine gfX11_70 C hE hP dX11_claim_52 ?_
              refine lv_iload_n hx hb dX11_claim_55 rfl (lv_at hl 1 rfl) ?_
              refine lv_iload_n hx hb dX11_claim_56 rfl (lv_at hl 2 rfl) ?_
              refine lv_iload_n hx hb dX11_claim_57 rfl (lv_at hl 3 rfl) ?_
              refine lv_iload hx hb dX11_claim_58 (lv_at hl 4 rfl) ?_
              refine lv_iload hx hb dX11_claim_60 (lv_at hl 5 rfl) ?_
              refine x_ci1 (rest := []) (x_runV C hE hP hS ykX9_add lkX11_285 sh120 rfl (c_X9_add (OB_bind hf)) (by decide) rfl hl.1 (Nat.le_of_ble_eq_true rfl) dX11_claim_62) hS (fun r10 M11 H locs hf hP hS => ?_)
              exact (OB_some hf) _ _ _ hP hS (lv_sub hl [] rfl)
            · have hf := (OB_t hf (bI_t hc))
              refine lv_bipush (v := -104) hx hb dX11_claim_46 (by decide) ?_
              refine lv_goto (tgt := 65) hx hb dX11_claim_48 (by decide) ?_
              exact (OB_some hf) _ _ _ hP hS (lv_sub hl [] rfl)
        · have hf := (OB_f hf hc)
          refine lv_bipush (v := -102) hx hb dX11_claim_33 (by decide) ?_
          exact hret _ _ _ _ _ _ (OB_some hf) hP hS dX11_claim_35
  · have hf := (OB_f hf (bI_f hc))
    refine lv_bipush (v := -101) hx hb dX11_claim_8 (by decide) ?_
    exact hret _ _ _ _ _ _ (OB_some hf) hP hS dX11_claim_10
def rm_X11_story : Room := { frames := 6, cells := 0, slots := 0, locals := 144 }
set_option maxRecDepth 100000 in
set_option maxHeartbeats 8000000 in
theorem c_X11_story {l : Launch} {G : GG} {a1 : Int32} {a2 : Int32} {M : Mem} {h : Int64}  {P9 : (Int32 × Mem) → Prop} (hf : OB (f_X11_story a1 a2 M) P9) : Met1 l yX11_story cX11_story 3 (some .int) rm_X11_story G [.ref (xa G 0), .int a1, .int a2] M h (QI1 G h P9) := by
  unfold f_X11_story at hf
  refine xm_i1 (by decide) (Nat.le_of_ble_eq_true rfl) ?_
  intro p e s m args below meth c ls Q C hE hret hP hS hl
  have C : CallFix p m c cX11_story 3 s args TB RX11 := C
  have hx := C.1
  have hb := C.2.1
  have hl : lv_has ls 3 [(0, .ref (xa G 0)), (1, .int a1), (2, .int a2)] := hl
  refine lv_iload_n hx hb dX11_story_0 rfl (lv_at hl 1 rfl) ?_
  refine x_cz0 (rest := []) (x_runS C hE hP hS ykX11_isLand lkX11_90 (c_X11_isLand (OB_bind hf)) (by decide) rfl hl.1 (Nat.le_of_ble_eq_true rfl) dX11_story_1) hS (fun r1 H locs hf hP hS => ?_)
  refine lv_if_ne (tgt := 10) hx hb dX11_story_4 (by decide) (fun hc => ?_) (fun hc => ?_)
  · have hf := (OB_t hf (bI_t hc))
    refine lv_iload_n hx hb dX11_story_10 rfl (lv_at hl 2 rfl) ?_
    have hj29 : ∀ (H : Heap) (locs : List Loc) (ls : Array Slot), OB (f_X11_story_j29_0 a1 a2 M) P9 → va_P G.1 vwCl (wl G M h) H → va_S (Aw G) s.heap H locs → lv_has ls 3 [(0, .ref (xa G 0)), (1, .int a1), (2, .int a2)] → W p l e rm_X11_story s m args below meth c H locs 0 0 Q (F0 m 29 ls []) := by
      intro  H locs ls hf hP hS hl
      refine lv_aload_n hx hb dX11_story_29 rfl (lv_at hl 0 rfl) ?_
      refine gfX11_70 C hE hP dX11_story_30 ?_
      refine lv_iload_n hx hb dX11_story_33 rfl (lv_at hl 1 rfl) ?_
      refine x_cv1 (rest := []) (x_runV C hE hP hS ykX9_tell lkX11_288 sh120 rfl (c_X9_tell (OB_bind hf)) (by decide) rfl hl.1 (Nat.le_of_ble_eq_true rfl) dX11_story_34) hS (fun M20 H locs hf hP hS => ?_)
      refine lv_iload_n hx hb dX11_story_37 rfl (lv_at hl 2 rfl) ?_
      refine xj (fun (x25 : Int32) => ∀ (H : Heap) (locs : List Loc) (ls : Array Slot), va_P G.1 vwCl (wl G M20 h) H → va_S (Aw G) s.heap H locs → lv_has ls 3 [] → W p l e rm_X11_story s m args below meth c H locs 0 0 Q (F0 m 62 ls [.int x25])) hf ?_ (fun hf => ?_)
      · rintro x25 hf H locs ls hP hS hl
        exact hret _ _ _ _ _ _ (OB_some hf) hP hS dX11_story_62
      · skip
        refine lv_if_ne (tgt := 51) hx hb dX11_story_38 (by decide) (fun hc => ?_) (fun hc => ?_)
        · have hf := (OB_f hf hc)
          refine lv_aload_n hx hb dX11_story_51 rfl (lv_at hl 0 rfl) ?_
          refine gfX11_70 C hE hP dX11_story_52 ?_
          refine lv_iload_n hx hb dX11_story_55 rfl (lv_at hl 2 rfl) ?_
          refine lv_bipush (v := 10) hx hb dX11_story_56 (by decide) ?_
          refine lv_isub hx hb dX11_story_58 ?_
          refine x_ci0 (rest := []) (x_runV C hE hP hS ykX9_placeAt lkX11_295 sh120 rfl (c_X9_placeAt (OB_bind hf)) (by decide) rfl hl.1 (Nat.le_of_ble_eq_true rfl) dX11_story_59) hS (fun r26 H locs hf hP hS => ?_)
          exact (OB_some hf) _ _ _ hP hS (lv_sub hl [] rfl)
        · have hf := (OB_t hf hc)
          refine lv_aload_n hx hb dX11_story_41 rfl (lv_at hl 0 rfl) ?_
          refine gfX11_70 C hE hP dX11_story_42 ?_
          refine x_ci0 (rest := []) (x_runV C hE hP hS ykX9_leastPrice lkX11_292 sh120 rfl (c_X9_leastPrice (OB_bind hf)) (by decide) rfl hl.1 (Nat.le_of_ble_eq_true rfl) dX11_story_45) hS (fun r27 H locs hf hP hS => ?_)
          refine lv_goto (tgt := 62) hx hb dX11_story_48 (by decide) ?_
          exact (OB_some hf) _ _ _ hP hS (lv_sub hl [] rfl)
    refine lv_if_eq (tgt := 29) hx hb dX11_story_11 (by decide) (fun hc => ?_) (fun hc => ?_)
    · have hf := (OB_t hf hc)
      exact hj29  _ _ _ hf hP hS (lv_sub hl [0, 1, 2] rfl)
    · have hf := (OB_f hf hc)
      refine lv_iload_n hx hb dX11_story_14 rfl (lv_at hl 2 rfl) ?_
      refine lv_bipush (v := 10) hx hb dX11_story_15 (by decide) ?_
      refine lv_isub hx hb dX11_story_17 ?_
      refine lv_bipush (v := 10) hx hb dX11_story_18 (by decide) ?_
      refine x_cz0 (rest := []) (x_runS C hE hP hS ykX11_within lkX11_94 (c_X11_within (OB_bind hf)) (by decide) rfl hl.1 (Nat.le_of_ble_eq_true rfl) dX11_story_20) hS (fun r28 H locs hf hP hS => ?_)
      refine lv_if_ne (tgt := 29) hx hb dX11_story_23 (by decide) (fun hc => ?_) (fun hc => ?_)
      · have hf := (OB_t hf (bI_t hc))
        exact hj29  _ _ _ hf hP hS (lv_sub hl [0, 1, 2] rfl)
      · have hf := (OB_f hf (bI_f hc))
        refine lv_bipush (v := -102) hx hb dX11_story_26 (by decide) ?_
        exact hret _ _ _ _ _ _ (OB_some hf) hP hS dX11_story_28
  · have hf := (OB_f hf (bI_f hc))
    refine lv_bipush (v := -101) hx hb dX11_story_7 (by decide) ?_
    exact hret _ _ _ _ _ _ (OB_some hf) hP hS dX11_story_9
def rm_X11_judge : Room := { frames := 6, cells := 0, slots := 0, locals := 147 }
set_option maxRecDepth 100000 in
set_option maxHeartbeats 8000000 in
theorem c_X11_judge {l : Launch} {G : GG} {a1 : Int32} {a2 : Int64} {M : Mem} {h : Int64}  {P9 : (Int32 × Mem) → Prop} (hf : OB (f_X11_judge a1 a2 M) P9) : Met1 l yX11_judge cX11_judge 4 (some .int) rm_X11_judge G [.ref (xa G 0), .int a1, .long a2] M h (QI1 G h P9) := by
  unfold f_X11_judge at hf
  refine xm_i1 (by decide) (Nat.le_of_ble_eq_true rfl) ?_
  intro p e s m args below meth c ls Q C hE hret hP hS hl
  have C : CallFix p m c cX11_judge 4 s args TB RX11 := C
  have hx := C.1
  have hb := C.2.1
  have hl : lv_has ls 4 [(0, .ref (xa G 0)), (1, .int a1), (2, .long a2)] := hl
  refine lv_iload_n hx hb dX11_judge_0 rfl (lv_at hl 1 rfl) ?_
  refine x_cz0 (rest := []) (x_runS C hE hP hS ykX11_isLand lkX11_90 (c_X11_isLand (OB_bind hf)) (by decide) rfl hl.1 (Nat.le_of_ble_eq_true rfl) dX11_judge_1) hS (fun r1 H locs hf hP hS => ?_)
  refine lv_if_ne (tgt := 10) hx hb dX11_judge_4 (by decide) (fun hc => ?_) (fun hc => ?_)
  · have hf := (OB_t hf (bI_t hc))
    refine lv_lload_n hx hb dX11_judge_10 rfl (lv_at hl 2 rfl) ?_
    refine lv_lconst (v := 0) hx hb dX11_judge_11 (by decide) ?_
    refine W.lcmp hx hb dX11_judge_12 ?_
    refine lv_if_lt (tgt := 25) hx hb dX11_judge_13 (by decide) (fun hc => ?_) (fun hc => ?_)
    · have hf := (OB_t hf hc)
      refine lv_bipush (v := -102) hx hb dX11_judge_25 (by decide) ?_
      exact hret _ _ _ _ _ _ (OB_some hf) hP hS dX11_judge_27
    · have hf := (OB_f hf hc)
      refine lv_lload_n hx hb dX11_judge_16 rfl (lv_at hl 2 rfl) ?_
      refine lv_bipush (v := 40) hx hb dX11_judge_17 (by decide) ?_
      refine x_lshr C dX11_judge_19 ?_
      refine lv_lconst (v := 0) hx hb dX11_judge_20 (by decide) ?_
      refine W.lcmp hx hb dX11_judge_21 ?_
      refine lv_if_eq (tgt := 28) hx hb dX11_judge_22 (by decide) (fun hc => ?_) (fun hc => ?_)
      · have hf := (OB_t hf hc)
        refine lv_aload_n hx hb dX11_judge_28 rfl (lv_at hl 0 rfl) ?_
        refine gfX11_70 C hE hP dX11_judge_29 ?_
        refine lv_iload_n hx hb dX11_judge_32 rfl (lv_at hl 1 rfl) ?_
        refine lv_lload_n hx hb dX11_judge_33 rfl (lv_at hl 2 rfl) ?_
        refine x_ci1 (rest := []) (x_runV C hE hP hS ykX9_priceOf lkX11_298 sh120 rfl (c_X9_priceOf (OB_bind hf)) (by decide) rfl hl.1 (Nat.le_of_ble_eq_true rfl) dX11_judge_34) hS (fun r2 M3 H locs hf hP hS => ?_)
        exact hret _ _ _ _ _ _ (OB_some hf) hP hS dX11_judge_37
      · have hf := (OB_f hf hc)
        refine lv_bipush (v := -102) hx hb dX11_judge_25 (by decide) ?_
        exact hret _ _ _ _ _ _ (OB_some hf) hP hS dX11_judge_27
  · have hf := (OB_f hf (bI_f hc))
    refine lv_bipush (v := -101) hx hb dX11_judge_7 (by decide) ?_
    exact hret _ _ _ _ _ _ (OB_some hf) hP hS dX11_judge_9
def rm_X11_pole : Room := { frames := 5, cells := 0, slots := 0, locals := 114 }
set_option maxRecDepth 100000 in
set_option maxHeartbeats 8000000 in
theorem c_X11_pole {l : Launch} {G : GG} {a1 : Int32} {a2 : Int32} {a3 : Int32} {a4 : Int32} {M : Mem} {h : Int64}  {P9 : (Int32 × Mem) → Prop} (hf : OB (f_X11_pole a1 a2 a3 a4 M) P9) : Met1 l yX11_pole cX11_pole 5 (some .int) rm_X11_pole G [.ref (xa G 0), .int a1, .int a2, .int a3, .int a4] M h (QI1 G h P9) := by
  unfold f_X11_pole at hf
  refine xm_i1 (by decide) (Nat.le_of_ble_eq_true rfl) ?_
  intro p e s m args below meth c ls Q C hE hret hP hS hl
  have C : CallFix p m c cX11_pole 5 s args TB RX11 := C
  have hx := C.1
  have hb := C.2.1
  have hl : lv_has ls 5 [(0, .ref (xa G 0)), (1, .int a1), (2, .int a2), (3, .int a3), (4, .int a4)] := hl
  refine lv_iload_n hx hb dX11_pole_0 rfl (lv_at hl 1 rfl) ?_
  refine lv_iconst (v := -1) hx hb dX11_pole_1 (by decide) ?_
  have hj12 : ∀ (H : Heap) (locs : List Loc) (ls : Array Slot), OB (f_X11_pole_j12_1 a1 a2 a3 a4 M) P9 → va_P G.1 vwCl (wl G M h) H → va_S (Aw G) s.heap H locs → lv_has ls 5 [(0, .ref (xa G 0)), (1, .int a1), (2, .int a2), (3, .int a3), (4, .int a4)] → W p l e rm_X11_pole s m args below meth c H locs 0 0 Q (F0 m 12 ls []) := by
    intro  H locs ls hf hP hS hl
    refine lv_iload_n hx hb dX11_pole_12 rfl (lv_at hl 2 rfl) ?_
    refine lv_iconst (v := -1) hx hb dX11_pole_13 (by decide) ?_
    have hj27 : ∀ (H : Heap) (locs : List Loc) (ls : Array Slot), OB (f_X11_pole_j27_0 a1 a2 a3 a4 M) P9 → va_P G.1 vwCl (wl G M h) H → va_S (Aw G) s.heap H locs → lv_has ls 5 [(0, .ref (xa G 0)), (1, .int a1), (2, .int a2), (3, .int a3), (4, .int a4)] → W p l e rm_X11_pole s m args below meth c H locs 0 0 Q (F0 m 27 ls []) := by
      intro  H locs ls hf hP hS hl
      refine lv_iload_n hx hb dX11_pole_27 rfl (lv_at hl 3 rfl) ?_
      refine lv_bipush (v := 16) hx hb dX11_pole_28 (by decide) ?_
      refine x_cz0 (rest := []) (x_runS C hE hP hS ykX11_within lkX11_94 (c_X11_within (OB_bind hf)) (by decide) rfl hl.1 (Nat.le_of_ble_eq_true rfl) dX11_pole_30) hS (fun r35 H locs hf hP hS => ?_)
      refine lv_if_eq (tgt := 45) hx hb dX11_pole_33 (by decide) (fun hc => ?_) (fun hc => ?_)
      · have hf := (OB_f hf (bI_f hc))
        refine lv_bipush (v := -102) hx hb dX11_pole_45 (by decide) ?_
        exact hret _ _ _ _ _ _ (OB_some hf) hP hS dX11_pole_47
      · have hf := (OB_t hf (bI_t hc))
        refine lv_iload hx hb dX11_pole_36 (lv_at hl 4 rfl) ?_
        refine lv_iconst (v := 3) hx hb dX11_pole_38 (by decide) ?_
        refine x_cz0 (rest := []) (x_runS C hE hP hS ykX11_within lkX11_94 (c_X11_within (OB_bind hf)) (by decide) rfl hl.1 (Nat.le_of_ble_eq_true rfl) dX11_pole_39) hS (fun r36 H locs hf hP hS => ?_)
        refine lv_if_ne (tgt := 48) hx hb dX11_pole_42 (by decide) (fun hc => ?_) (fun hc => ?_)
        · have hf := (OB_t hf (bI_t hc))
          refine lv_aload_n hx hb dX11_pole_48 rfl (lv_at hl 0 rfl) ?_
          refine gfX11_79 C hE hP dX11_pole_49 ?_
          refine lv_iload_n hx hb dX11_pole_52 rfl (lv_at hl 1 rfl) ?_
          refine lv_iload_n hx hb dX11_pole_53 rfl (lv_at hl 2 rfl) ?_
          refine lv_iload_n hx hb dX11_pole_54 rfl (lv_at hl 3 rfl) ?_
          refine x_cv1 (rest := []) (x_runV C hE hP hS ykX7_seek lkX11_302 sh129 rfl (c_X7_seek (OB_bind hf)) (by decide) rfl hl.1 (Nat.le_of_ble_eq_true rfl) dX11_pole_55) hS (fun M37 H locs hf hP hS => ?_)
          refine lv_iload hx hb dX11_pole_58 (lv_at hl 4 rfl) ?_
          by_cases hs60_0 : a4 = 0
          · have hf := OB_t hf hs60_0
            refine lv_lookup (off := 28) (tgt := 88) hx hb dX11_pole_60 (by decide) (by rw [hs60_0]; rfl) (by decide) ?_
            refine lv_aload_n hx hb dX11_pole_88 rfl (lv_at hl 0 rfl) ?_
            refine gfX11_79 C hE hP dX11_pole_89 ?_
            refine gfX11_305 C hE hP dX11_pole_92 ?_
            exact hret _ _ _ _ _ _ (OB_some hf) hP hS dX11_pole_95
          · have hf := OB_f hf hs60_0
            by_cases hs60_1 : a4 = 1
            · have hf := OB_t hf hs60_1
              refine lv_lookup (off := 36) (tgt := 96) hx hb dX11_pole_60 (by decide) (by rw [hs60_1]; rfl) (by decide) ?_
              refine lv_aload_n hx hb dX11_pole_96 rfl (lv_at hl 0 rfl) ?_
              refine gfX11_79 C hE hP dX11_pole_97 ?_
              refine gfX11_308 C hE hP dX11_pole_100 ?_
              exact hret _ _ _ _ _ _ (OB_some hf) hP hS dX11_pole_103
            · have hf := OB_f hf hs60_1
              refine lv_lookup (off := 44) (tgt := 104) hx hb dX11_pole_60 (by decide) (by rw [lv_osw hs60_0 (by decide : (0 : Int32).toInt = 0), lv_osw hs60_1 (by decide : (1 : Int32).toInt = 1)]; rfl) (by decide) ?_
              refine lv_aload_n hx hb dX11_pole_104 rfl (lv_at hl 0 rfl) ?_
              refine gfX11_79 C hE hP dX11_pole_105 ?_
              refine gfX11_311 C hE hP dX11_pole_108 ?_
              exact hret _ _ _ _ _ _ (OB_some hf) hP hS dX11_pole_111
        · have hf := (OB_f hf (bI_f hc))
          refine lv_bipush (v := -102) hx hb dX11_pole_45 (by decide) ?_
          exact hret _ _ _ _ _ _ (OB_some hf) hP hS dX11_pole_47
    refine lv_icmp_eq (tgt := 27) hx hb dX11_pole_14 (by decide) (fun hc => ?_) (fun hc => ?_)
    · have hf := (OB_t hf hc)
      exact hj27  _ _ _ hf hP hS (lv_sub hl [0, 1, 2, 3, 4] rfl)
    · have hf := (OB_f hf hc)
      refine lv_iload_n hx hb dX11_pole_17 rfl (lv_at hl 2 rfl) ?_
      refine x_cz0 (rest := []) (x_runS C hE hP hS ykX11_isLand lkX11_90 (c_X11_isLand (OB_bind hf)) (by decide) rfl hl.1 (Nat.le_of_ble_eq_true rfl) dX11_pole_18) hS (fun r38 H locs hf hP hS => ?_)
      refine lv_if_ne (tgt := 27) hx hb dX11_pole_21 (by decide) (fun hc => ?_) (fun hc => ?_)
      · have hf := (OB_t hf (bI_t hc))
        exact hj27  _ _ _ hf hP hS (lv_sub hl [0, 1, 2, 3, 4] rfl)
      · have hf := (OB_f hf (bI_f hc))
        refine lv_bipush (v := -101) hx hb dX11_pole_24 (by decide) ?_
        exact hret _ _ _ _ _ _ (OB_some hf) hP hS dX11_pole_26
  refine lv_icmp_eq (tgt := 12) hx hb dX11_pole_2 (by decide) (fun hc => ?_) (fun hc => ?_)
  · have hf := (OB_t hf hc)
    exact hj12  _ _ _ hf hP hS (lv_sub hl [0, 1, 2, 3, 4] rfl)
  · have hf := (OB_f hf hc)
    refine lv_iload_n hx hb dX11_pole_5 rfl (lv_at hl 1 rfl) ?_
    refine x_cz0 (rest := []) (x_runS C hE hP hS ykX11_isLand lkX11_90 (c_X11_isLand (OB_bind hf)) (by decide) rfl hl.1 (Nat.le_of_ble_eq_true rfl) dX11_pole_6) hS (fun r39 H locs hf hP hS => ?_)
    refine lv_if_eq (tgt := 24) hx hb dX11_pole_9 (by decide) (fun hc => ?_) (fun hc => ?_)
    · have hf := (OB_f hf (bI_f hc))
      refine lv_bipush (v := -101) hx hb dX11_pole_24 (by decide) ?_
      exact hret _ _ _ _ _ _ (OB_some hf) hP hS dX11_pole_26
    · have hf := (OB_t hf (bI_t hc))
      exact hj12  _ _ _ hf hP hS (lv_sub hl [0, 1, 2, 3, 4] rfl)
def rm_X11_floor : Room := { frames := 1, cells := 0, slots := 0, locals := 22 }
set_option maxRecDepth 100000 in
set_option maxHeartbeats 8000000 in
theorem c_X11_floor {l : Launch} {G : GG} {a1 : Int32} {M : Mem} {h : Int64}  {P9 : (Int32 × Mem) → Prop} (hf : OB (f_X11_floor a1 M) P9) : Met1 l yX11_floor cX11_floor 2 (some .int) rm_X11_floor G [.ref (xa G 0), .int a1] M h (QI1 G h P9) := by
  unfold f_X11_floor at hf
  refine xm_i1 (by decide) (Nat.le_of_ble_eq_true rfl) ?_
  intro p e s m args below meth c ls Q C hE hret hP hS hl
  have C : CallFix p m c cX11_floor 2 s args TB RX11 := C
  have hx := C.1
  have hb := C.2.1
  have hl : lv_has ls 2 [(0, .ref (xa G 0)), (1, .int a1)] := hl
  refine lv_iload_n hx hb dX11_floor_0 rfl (lv_at hl 1 rfl) ?_
  refine xj (fun (zz : (Int32 × Mem)) => match zz with | (x5, M6) => ∀ (H : Heap) (locs : List Loc) (ls : Array Slot), va_P G.1 vwCl (wl G M6 h) H → va_S (Aw G) s.heap H locs → lv_has ls 2 [] → W p l e rm_X11_floor s m args below meth c H locs 0 0 Q (F0 m 24 ls [.int x5])) hf ?_ (fun hf => ?_)
  · rintro ⟨x5, M6⟩ hf H locs ls hP hS hl
    exact hret _ _ _ _ _ _ (OB_some hf) hP hS dX11_floor_24
  · skip
    refine lv_if_lt (tgt := 11) hx hb dX11_floor_1 (by decide) (fun hc => ?_) (fun hc => ?_)
    · have hf := (OB_t hf hc)
      refine lv_bipush (v := -102) hx hb dX11_floor_11 (by decide) ?_
      refine lv_goto (tgt := 24) hx hb dX11_floor_13 (by decide) ?_
      exact (OB_some hf) _ _ _ hP hS (lv_sub hl [] rfl)
    · have hf := (OB_f hf hc)
      refine lv_iload_n hx hb dX11_floor_4 rfl (lv_at hl 1 rfl) ?_
      refine lv_ldcw hx hb C.2.2.2.1 (C.2.2.2.2 _ ckX11_314) dX11_floor_5 ?_
      refine lv_icmp_le (tgt := 16) hx hb dX11_floor_8 (by decide) (fun hc => ?_) (fun hc => ?_)
      · have hf := (OB_t hf hc)
        refine lv_aload_n hx hb dX11_floor_16 rfl (lv_at hl 0 rfl) ?_
        refine gfX11_86 C hE hP dX11_floor_17 ?_
        refine lv_iload_n hx hb dX11_floor_20 rfl (lv_at hl 1 rfl) ?_
        refine x_ci1 (rest := []) (x_runV C hE hP hS ykX10_change lkX11_315 sh131 rfl (c_X10_change (OB_bind hf)) (by decide) rfl hl.1 (Nat.le_of_ble_eq_true rfl) dX11_floor_21) hS (fun r7 M8 H locs hf hP hS => ?_)
        exact (OB_some hf) _ _ _ hP hS (lv_sub hl [] rfl)
      · have hf := (OB_f hf hc)
        refine lv_bipush (v := -102) hx hb dX11_floor_11 (by decide) ?_
        refine lv_goto (tgt := 24) hx hb dX11_floor_13 (by decide) ?_
        exact (OB_some hf) _ _ _ hP hS (lv_sub hl [] rfl)
def rm_X11_mirror : Room := { frames := 2, cells := 0, slots := 0, locals := 44 }
set_option maxRecDepth 100000 in
set_option maxHeartbeats 8000000 in
theorem c_X11_mirror {l : Launch} {G : GG} {a1 : Int32} {M : Mem} {h : Int64}  {P9 : Int32 → Prop} (hf : OB (f_X11_mirror a1 M) P9) : Met1 l yX11_mirror cX11_mirror 2 (some .int) rm_X11_mirror G [.ref (xa G 0), .int a1] M h (QI0 G M h P9) := by
  unfold f_X11_mirror at hf
  refine xm_i0 (by decide) (Nat.le_of_ble_eq_true rfl) ?_
  intro p e s m args below meth c ls Q C hE hret hP hS hl
  have C : CallFix p m c cX11_mirror 2 s args TB RX11 := C
  have hx := C.1
  have hb := C.2.1
  have hl : lv_has ls 2 [(0, .ref (xa G 0)), (1, .int a1)] := hl
  refine lv_iload_n hx hb dX11_mirror_0 rfl (lv_at hl 1 rfl) ?_
  refine lv_iconst (v := 1) hx hb dX11_mirror_1 (by decide) ?_
  refine xj (fun (x3 : Int32) => ∀ (H : Heap) (locs : List Loc) (ls : Array Slot), va_P G.1 vwCl (wl G M h) H → va_S (Aw G) s.heap H locs → lv_has ls 2 [] → W p l e rm_X11_mirror s m args below meth c H locs 0 0 Q (F0 m 24 ls [.int x3])) hf ?_ (fun hf => ?_)
  · rintro x3 hf H locs ls hP hS hl
    exact hret _ _ _ _ _ (OB_some hf) hP hS dX11_mirror_24
  · skip
    refine lv_icmp_lt (tgt := 11) hx hb dX11_mirror_2 (by decide) (fun hc => ?_) (fun hc => ?_)
    · have hf := (OB_t hf hc)
      refine lv_bipush (v := -102) hx hb dX11_mirror_11 (by decide) ?_
      refine lv_goto (tgt := 24) hx hb dX11_mirror_13 (by decide) ?_
      exact (OB_some hf) _ _ _ hP hS (lv_sub hl [] rfl)
    · have hf := (OB_f hf hc)
      refine lv_iload_n hx hb dX11_mirror_5 rfl (lv_at hl 1 rfl) ?_
      refine lv_bipush (v := 24) hx hb dX11_mirror_6 (by decide) ?_
      refine lv_icmp_lt (tgt := 16) hx hb dX11_mirror_8 (by decide) (fun hc => ?_) (fun hc => ?_)
      · have hf := (OB_t hf hc)
        refine lv_aload_n hx hb dX11_mirror_16 rfl (lv_at hl 0 rfl) ?_
        refine gfX11_86 C hE hP dX11_mirror_17 ?_
        refine lv_iload_n hx hb dX11_mirror_20 rfl (lv_at hl 1 rfl) ?_
        refine x_ci0 (rest := []) (x_runV C hE hP hS ykX10_sameAbout lkX11_318 sh131 rfl (c_X10_sameAbout (OB_bind hf)) (by decide) rfl hl.1 (Nat.le_of_ble_eq_true rfl) dX11_mirror_21) hS (fun r4 H locs hf hP hS => ?_)
        exact (OB_some hf) _ _ _ hP hS (lv_sub hl [] rfl)
      · have hf := (OB_f hf hc)
        refine lv_bipush (v := -102) hx hb dX11_mirror_11 (by decide) ?_
        refine lv_goto (tgt := 24) hx hb dX11_mirror_13 (by decide) ?_
        exact (OB_some hf) _ _ _ hP hS (lv_sub hl [] rfl)
def rm_X11_ridge : Room := { frames := 3, cells := 0, slots := 0, locals := 69 }
set_option maxRecDepth 100000 in
set_option maxHeartbeats 8000000 in
theorem c_X11_ridge {l : Launch} {G : GG}  {M : Mem} {h : Int64}  {P9 : Int32 → Prop} (hf : OB (f_X11_ridge M) P9) : Met1 l yX11_ridge cX11_ridge 1 (some .int) rm_X11_ridge G [.ref (xa G 0)] M h (QI0 G M h P9) := by
  unfold f_X11_ridge at hf
  refine xm_i0 (by decide) (Nat.le_of_ble_eq_true rfl) ?_
  intro p e s m args below meth c ls Q C hE hret hP hS hl
  have C : CallFix p m c cX11_ridge 1 s args TB RX11 := C
  have hx := C.1
  have hb := C.2.1
  have hl : lv_has ls 1 [(0, .ref (xa G 0))] := hl
  refine lv_aload_n hx hb dX11_ridge_0 rfl (lv_at hl 0 rfl) ?_
  refine gfX11_86 C hE hP dX11_ridge_1 ?_
  refine x_ci0 (rest := []) (x_runV C hE hP hS ykX10_bestPlace lkX11_321 sh131 rfl (c_X10_bestPlace (OB_bind hf)) (by decide) rfl hl.1 (Nat.le_of_ble_eq_true rfl) dX11_ridge_4) hS (fun r1 H locs hf hP hS => ?_)
  exact hret _ _ _ _ _ (OB_some hf) hP hS dX11_ridge_7
def rm_X11_count : Room := { frames := 3, cells := 0, slots := 0, locals := 67 }
set_option maxRecDepth 100000 in
set_option maxHeartbeats 8000000 in
theorem c_X11_count {l : Launch} {G : GG} {a1 : Int32} {M : Mem} {h : Int64}  {P9 : Int32 → Prop} (hf : OB (f_X11_count a1 M) P9) : Met1 l yX11_count cX11_count 2 (some .int) rm_X11_count G [.ref (xa G 0), .int a1] M h (QI0 G M h P9) := by
  unfold f_X11_count at hf
  refine xm_i0 (by decide) (Nat.le_of_ble_eq_true rfl) ?_
  intro p e s m args below meth c ls Q C hE hret hP hS hl
  have C : CallFix p m c cX11_count 2 s args TB RX11 := C
  have hx := C.1
  have hb := C.2.1
  have hl : lv_has ls 2 [(0, .ref (xa G 0)), (1, .int a1)] := hl
  refine lv_iload_n hx hb dX11_count_0 rfl (lv_at hl 1 rfl) ?_
  by_cases hs1_0 : a1 = 0
  · have hf := OB_t hf hs1_0
    refine lv_tableIn (off := 43) (tgt := 44) hx hb dX11_count_1 (by rw [hs1_0]; decide) (by rw [hs1_0]; decide) (by rw [hs1_0]; rfl) (by decide) ?_
    refine lv_aload_n hx hb dX11_count_44 rfl (lv_at hl 0 rfl) ?_
    refine gfX11_10 C hE hP dX11_count_45 ?_
    refine x_ci0 (rest := []) (x_runV C hE hP hS ykX2_sizeOfAll lkX11_324 sh1 rfl (c_X2_sizeOfAll (OB_bind hf)) (by decide) rfl hl.1 (Nat.le_of_ble_eq_true rfl) dX11_count_48) hS (fun r1 H locs hf hP hS => ?_)
    exact hret _ _ _ _ _ (OB_some hf) hP hS dX11_count_51
  · have hf := OB_f hf hs1_0
    by_cases hs1_1 : a1 = 1
    · have hf := OB_t hf hs1_1
      refine lv_tableIn (off := 51) (tgt := 52) hx hb dX11_count_1 (by rw [hs1_1]; decide) (by rw [hs1_1]; decide) (by rw [hs1_1]; rfl) (by decide) ?_
      refine lv_aload_n hx hb dX11_count_52 rfl (lv_at hl 0 rfl) ?_
      refine gfX11_21 C hE hP dX11_count_53 ?_
      refine x_ci0 (rest := []) (x_runV C hE hP hS ykX5_size lkX11_130 sh5 rfl (c_X5_size (OB_bind hf)) (by decide) rfl hl.1 (Nat.le_of_ble_eq_true rfl) dX11_count_56) hS (fun r2 H locs hf hP hS => ?_)
      exact hret _ _ _ _ _ (OB_some hf) hP hS dX11_count_59
    · have hf := OB_f hf hs1_1
      by_cases hs1_2 : a1 = 2
      · have hf := OB_t hf hs1_2
        refine lv_tableIn (off := 59) (tgt := 60) hx hb dX11_count_1 (by rw [hs1_2]; decide) (by rw [hs1_2]; decide) (by rw [hs1_2]; rfl) (by decide) ?_
        refine lv_aload_n hx hb dX11_count_60 rfl (lv_at hl 0 rfl) ?_
        refine gfX11_42 C hE hP dX11_count_61 ?_
        refine x_ci0 (rest := []) (x_runV C hE hP hS ykX3_size lkX11_246 (sh_H isH0) rfl (c_X3_size isH0 (OB_bind hf)) (by decide) rfl hl.1 (Nat.le_of_ble_eq_true rfl) dX11_count_64) hS (fun r3 H locs hf hP hS => ?_)
        exact hret _ _ _ _ _ (OB_some hf) hP hS dX11_count_67
      · have hf := OB_f hf hs1_2
        by_cases hs1_3 : a1 = 3
        · have hf := OB_t hf hs1_3
          refine lv_tableIn (off := 67) (tgt := 68) hx hb dX11_count_1 (by rw [hs1_3]; decide) (by rw [hs1_3]; decide) (by rw [hs1_3]; rfl) (by decide) ?_
          refine lv_aload_n hx hb dX11_count_68 rfl (lv_at hl 0 rfl) ?_
          refine gfX11_46 C hE hP dX11_count_69 ?_
          refine x_ci0 (rest := []) (x_runV C hE hP hS ykX3_size lkX11_246 (sh_H isH1) rfl (c_X3_size isH1 (OB_bind hf)) (by decide) rfl hl.1 (Nat.le_of_ble_eq_true rfl) dX11_count_72) hS (fun r4 H locs hf hP hS => ?_)
          exact hret _ _ _ _ _ (OB_some hf) hP hS dX11_count_75
        · have hf := OB_f hf hs1_3
          by_cases hs1_4 : a1 = 4
          · have hf := OB_t hf hs1_4
            refine lv_tableIn (off := 75) (tgt := 76) hx hb dX11_count_1 (by rw [hs1_4]; decide) (by rw [hs1_4]; decide) (by rw [hs1_4]; rfl) (by decide) ?_
            refine lv_aload_n hx hb dX11_count_76 rfl (lv_at hl 0 rfl) ?_
            refine gfX11_52 C hE hP dX11_count_77 ?_
            refine x_ci0 (rest := []) (x_runV C hE hP hS ykX0_size lkX11_254 sh114 rfl (c_X0_size (OB_bind hf)) (by decide) rfl hl.1 (Nat.le_of_ble_eq_true rfl) dX11_count_80) hS (fun r5 H locs hf hP hS => ?_)
            exact hret _ _ _ _ _ (OB_some hf) hP hS dX11_count_83
          · have hf := OB_f hf hs1_4
            by_cases hs1_5 : a1 = 5
            · have hf := OB_t hf hs1_5
              refine lv_tableIn (off := 83) (tgt := 84) hx hb dX11_count_1 (by rw [hs1_5]; decide) (by rw [hs1_5]; decide) (by rw [hs1_5]; rfl) (by decide) ?_
              refine lv_aload_n hx hb dX11_count_84 rfl (lv_at hl 0 rfl) ?_
              refine gfX11_70 C hE hP dX11_count_85 ?_
              refine x_ci0 (rest := []) (x_runV C hE hP hS ykX9_size lkX11_327 sh120 rfl (c_X9_size (OB_bind hf)) (by decide) rfl hl.1 (Nat.le_of_ble_eq_true rfl) dX11_count_88) hS (fun r6 H locs hf hP hS => ?_)
              exact hret _ _ _ _ _ (OB_some hf) hP hS dX11_count_91
            · have hf := OB_f hf hs1_5
              by_cases hs1_6 : a1 = 6
              · have hf := OB_t hf hs1_6
                refine lv_tableIn (off := 91) (tgt := 92) hx hb dX11_count_1 (by rw [hs1_6]; decide) (by rw [hs1_6]; decide) (by rw [hs1_6]; rfl) (by decide) ?_
                refine lv_aload_n hx hb dX11_count_92 rfl (lv_at hl 0 rfl) ?_
                refine gfX11_35 C hE hP dX11_count_93 ?_
                refine x_ci0 (rest := []) (x_runV C hE hP hS ykX6_size lkX11_328 sh10 rfl (c_X6_size (OB_bind hf)) (by decide) rfl hl.1 (Nat.le_of_ble_eq_true rfl) dX11_count_96) hS (fun r7 H locs hf hP hS => ?_)
                exact hret _ _ _ _ _ (OB_some hf) hP hS dX11_count_99
              · have hf := OB_f hf hs1_6
                refine lv_tableOut (tgt := 100) hx hb dX11_count_1 (by have n0 := lv_neT hs1_0 (by decide : (0 : Int32).toInt = 0); have n1 := lv_neT hs1_1 (by decide : (1 : Int32).toInt = 1); have n2 := lv_neT hs1_2 (by decide : (2 : Int32).toInt = 2); have n3 := lv_neT hs1_3 (by decide : (3 : Int32).toInt = 3); have n4 := lv_neT hs1_4 (by decide : (4 : Int32).toInt = 4); have n5 := lv_neT hs1_5 (by decide : (5 : Int32).toInt = 5); have n6 := lv_neT hs1_6 (by decide : (6 : Int32).toInt = 6); omega) (by decide) ?_
                refine lv_bipush (v := -102) hx hb dX11_count_100 (by decide) ?_
                exact hret _ _ _ _ _ (OB_some hf) hP hS dX11_count_102
def rm_X11_digest : Room := { frames := 6, cells := 0, slots := 0, locals := 151 }
set_option maxRecDepth 100000 in
set_option maxHeartbeats 8000000 in
theorem c_X11_digest {l : Launch} {G : GG}  {M : Mem} {h : Int64}  {P9 : (Int64 × Mem) → Prop} (hf : OB (f_X11_digest M) P9) : Met1 l yX11_digest cX11_digest 4 (some .long) rm_X11_digest G [.ref (xa G 0)] M h (QL1 G h P9) := by
  unfold f_X11_digest at hf
  refine xm_l1 (by decide) (Nat.le_of_ble_eq_true rfl) ?_
  intro p e s m args below meth c ls Q C hE hret hP hS hl
  have C : CallFix p m c cX11_digest 4 s args TB RX11 := C
  have hx := C.1
  have hb := C.2.1
  have hl : lv_has ls 4 [(0, .ref (xa G 0))] := hl
  refine lv_aload_n hx hb dX11_digest_0 rfl (lv_at hl 0 rfl) ?_
  refine gfX11_10 C hE hP dX11_digest_1 ?_
  refine lv_ldc2 hx hb C.2.2.2.1 (C.2.2.2.2 _ ckX11_329) dX11_digest_4 ?_
  refine x_cl0 (rest := []) (x_runV C hE hP hS ykX2_toldCells lkX11_331 sh1 rfl (c_X2_toldCells (OB_bind hf)) (by decide) rfl hl.1 (Nat.le_of_ble_eq_true rfl) dX11_digest_7) hS (fun r1 H locs hf hP hS => ?_)
  refine lv_lstore_n (lv' := [(1, .long r1), (0, .ref (xa G 0))]) hx hb dX11_digest_10 rfl hl (by decide) rfl (fun ls hl => ?_)
  refine lv_aload_n hx hb dX11_digest_11 rfl (lv_at hl 1 rfl) ?_
  refine gfX11_21 C hE hP dX11_digest_12 ?_
  refine lv_lload_n hx hb dX11_digest_15 rfl (lv_at hl 0 rfl) ?_
  refine x_cl0 (rest := []) (x_runV C hE hP hS ykX5_told lkX11_335 sh5 rfl (c_X5_told (OB_bind hf)) (by decide) rfl hl.1 (Nat.le_of_ble_eq_true rfl) dX11_digest_16) hS (fun r2 H locs hf hP hS => ?_)
  refine lv_lstore_n (lv' := [(1, .long r2), (0, .ref (xa G 0))]) hx hb dX11_digest_19 rfl hl (by decide) rfl (fun ls hl => ?_)
  refine lv_aload_n hx hb dX11_digest_20 rfl (lv_at hl 1 rfl) ?_
  refine gfX11_10 C hE hP dX11_digest_21 ?_
  refine lv_lload_n hx hb dX11_digest_24 rfl (lv_at hl 0 rfl) ?_
  refine x_cl1 (rest := []) (x_runV C hE hP hS ykX2_toldDistances lkX11_338 sh1 rfl (c_X2_toldDistances (OB_bind hf)) (by decide) rfl hl.1 (Nat.le_of_ble_eq_true rfl) dX11_digest_25) hS (fun r3 M4 H locs hf hP hS => ?_)
  refine lv_lstore_n (lv' := [(1, .long r3), (0, .ref (xa G 0))]) hx hb dX11_digest_28 rfl hl (by decide) rfl (fun ls hl => ?_)
  refine lv_aload_n hx hb dX11_digest_29 rfl (lv_at hl 1 rfl) ?_
  refine gfX11_61 C hE hP dX11_digest_30 ?_
  refine lv_lload_n hx hb dX11_digest_33 rfl (lv_at hl 0 rfl) ?_
  refine lv_aload_n hx hb dX11_digest_34 rfl (lv_at hl 1 rfl) ?_
  refine gfX11_42 C hE hP dX11_digest_35 ?_
  refine lv_aload_n hx hb dX11_digest_38 rfl (lv_at hl 1 rfl) ?_
  refine gfX11_46 C hE hP dX11_digest_39 ?_
  refine x_cl1 (rest := []) (x_runV C hE hP hS ykX8_told lkX11_341 sh117 rfl (c_X8_told isH0 isH1 (OB_bind hf)) (by decide) rfl hl.1 (Nat.le_of_ble_eq_true rfl) dX11_digest_42) hS (fun r5 M6 H locs hf hP hS => ?_)
  refine lv_lstore_n (lv' := [(1, .long r5), (0, .ref (xa G 0))]) hx hb dX11_digest_45 rfl hl (by decide) rfl (fun ls hl => ?_)
  refine lv_aload_n hx hb dX11_digest_46 rfl (lv_at hl 1 rfl) ?_
  refine gfX11_70 C hE hP dX11_digest_47 ?_
  refine lv_lload_n hx hb dX11_digest_50 rfl (lv_at hl 0 rfl) ?_
  refine x_cl0 (rest := []) (x_runV C hE hP hS ykX9_told lkX11_344 sh120 rfl (c_X9_told (OB_bind hf)) (by decide) rfl hl.1 (Nat.le_of_ble_eq_true rfl) dX11_digest_51) hS (fun r7 H locs hf hP hS => ?_)
  refine lv_lstore_n (lv' := [(1, .long r7), (0, .ref (xa G 0))]) hx hb dX11_digest_54 rfl hl (by decide) rfl (fun ls hl => ?_)
  refine lv_aload_n hx hb dX11_digest_55 rfl (lv_at hl 1 rfl) ?_
  refine gfX11_86 C hE hP dX11_digest_56 ?_
  refine lv_lload_n hx hb dX11_digest_59 rfl (lv_at hl 0 rfl) ?_
  refine x_cl0 (rest := []) (x_runV C hE hP hS ykX10_told lkX11_345 sh131 rfl (c_X10_told (OB_bind hf)) (by decide) rfl hl.1 (Nat.le_of_ble_eq_true rfl) dX11_digest_60) hS (fun r8 H locs hf hP hS => ?_)
  refine lv_lstore_n (lv' := [(1, .long r8), (0, .ref (xa G 0))]) hx hb dX11_digest_63 rfl hl (by decide) rfl (fun ls hl => ?_)
  refine lv_aload_n hx hb dX11_digest_64 rfl (lv_at hl 1 rfl) ?_
  refine gfX11_35 C hE hP dX11_digest_65 ?_
  refine lv_lload_n hx hb dX11_digest_68 rfl (lv_at hl 0 rfl) ?_
  refine x_cl0 (rest := []) (x_runV C hE hP hS ykX6_told lkX11_346 sh10 rfl (c_X6_told (OB_bind hf)) (by decide) rfl hl.1 (Nat.le_of_ble_eq_true rfl) dX11_digest_69) hS (fun r9 H locs hf hP hS => ?_)
  refine lv_lstore_n (lv' := [(1, .long r9), (0, .ref (xa G 0))]) hx hb dX11_digest_72 rfl hl (by decide) rfl (fun ls hl => ?_)
  refine lv_iconst (v := 0) hx hb dX11_digest_73 (by decide) ?_
  refine lv_istore_n (lv' := [(3, .int 0), (1, .long r9), (0, .ref (xa G 0))]) hx hb dX11_digest_74 rfl hl (by decide) rfl (fun ls hl => ?_)
  refine xj (fun (x20 : Int64) => ∀ (H : Heap) (locs : List Loc) (ls : Array Slot), va_P G.1 vwCl (wl G M6 h) H → va_S (Aw G) s.heap H locs → lv_has ls 4 [(1, .long x20)] → W p l e rm_X11_digest s m args below meth c H locs 0 0 Q (F0 m 98 ls [])) hf ?_ (fun hf => ?_)
  · rintro x20 hf H locs ls hP hS hl
    refine lv_lload_n hx hb dX11_digest_98 rfl (lv_at hl 0 rfl) ?_
    exact hret _ _ _ _ _ _ (OB_some hf) hP hS dX11_digest_99
  · refine (it_W (fun (zz : (Int64 × Int32)) => match zz with | (x18, x19) => ∀ (H : Heap) (locs : List Loc) (ls : Array Slot), va_P G.1 vwCl (wl G M6 h) H → va_S (Aw G) s.heap H locs → lv_has ls 4 [(0, .ref (xa G 0)), (1, .long x18), (3, .int x19)] → W p l e rm_X11_digest s m args below meth c H locs 0 0 Q (F0 m 75 ls [])) hf ?_) _ _ _ hP hS (lv_sub hl [2, 1, 0] rfl)
    rintro ⟨x18, x19⟩ hf H locs ls hP hS hl
    unfold f_X11_digest_b75 at hf
    refine lv_iload_n hx hb dX11_digest_75 rfl (lv_at hl 2 rfl) ?_
    refine lv_bipush (v := 6) hx hb dX11_digest_76 (by decide) ?_
    refine lv_icmp_gt (tgt := 98) hx hb dX11_digest_78 (by decide) (fun hc => ?_) (fun hc => ?_)
    · have hf := (OB_t hf hc)
      exact (it_e hf) _ _ _ hP hS (lv_sub hl [1] rfl)
    · have hf := (OB_f hf hc)
      refine lv_lload_n hx hb dX11_digest_81 rfl (lv_at hl 1 rfl) ?_
      refine lv_aload_n hx hb dX11_digest_82 rfl (lv_at hl 0 rfl) ?_
      refine lv_iload_n hx hb dX11_digest_83 rfl (lv_at hl 2 rfl) ?_
      refine x_ci0 (rest := [.long x18]) (x_runV C hE hP hS ykX11_count lkX11_347 sh0 rfl (c_X11_count (OB_bind hf)) (by decide) rfl hl.1 (Nat.le_of_ble_eq_true rfl) dX11_digest_84) hS (fun r21 H locs hf hP hS => ?_)
      refine lv_i2l hx hb dX11_digest_87 rfl ?_
      refine x_cl0 (rest := []) (x_runS C hE hP hS ykX11_then lkX11_350 (c_X11_then (OB_bind hf)) (by decide) rfl hl.1 (Nat.le_of_ble_eq_true rfl) dX11_digest_88) hS (fun r22 H locs hf hP hS => ?_)
      refine lv_lstore_n (lv' := [(1, .long r22), (0, .ref (xa G 0)), (3, .int x19)]) hx hb dX11_digest_91 rfl hl (by decide) rfl (fun ls hl => ?_)
      refine lv_iinc (v := (x19 + 1)) (lv' := [(3, .int (x19 + 1)), (1, .long r22), (0, .ref (xa G 0))]) hx hb dX11_digest_92 hl (k := 2) rfl rfl (by decide) rfl (fun ls hl => ?_)
      refine lv_goto (tgt := 75) hx hb dX11_digest_95 (by decide) ?_
      exact (it_c hf) _ _ _ hP hS (lv_sub hl [2, 1, 0] rfl)
def rm_X12_in : Room := { frames := 0, cells := 0, slots := 0, locals := 0 }
set_option maxRecDepth 100000 in
set_option maxHeartbeats 8000000 in
theorem c_X12_in {l : Launch} {G : GG} {a0 : Int64} {a2 : Int64} {a4 : Int64} {M : Mem} {h : Int64}  {P9 : Bool → Prop} (hf : OB (f_X12_in a0 a2 a4) P9) : Met1 l yX12_in cX12_in 6 (some .boolean) rm_X12_in G [.long a0, .long a2, .long a4] M h (QZ0 G M h P9) := by
  unfold f_X12_in at hf
  refine xm_z0 (by decide) (Nat.le_of_ble_eq_true rfl) ?_
  intro p e s m args below meth c ls Q C hE hret hP hS hl
  have C : CallFix p m c cX12_in 6 s args TB RX12 := C
  have hx := C.1
  have hb := C.2.1
  have hl : lv_has ls 6 [(0, .long a0), (2, .long a2), (4, .long a4)] := hl
  refine lv_lload_n hx hb dX12_in_0 rfl (lv_at hl 0 rfl) ?_
  refine lv_lload_n hx hb dX12_in_1 rfl (lv_at hl 1 rfl) ?_
  refine W.lcmp hx hb dX12_in_2 ?_
  refine xj (fun (x1 : Bool) => ∀ (H : Heap) (locs : List Loc) (ls : Array Slot), va_P G.1 vwCl (wl G M h) H → va_S (Aw G) s.heap H locs → lv_has ls 6 [] → W p l e rm_X12_in s m args below meth c H locs 0 0 Q (F0 m 18 ls [.int (bI x1)])) hf ?_ (fun hf => ?_)
  · rintro x1 hf H locs ls hP hS hl
    exact hret _ _ _ _ _ (OB_some hf) hP hS dX12_in_18
  · skip
    refine lv_if_lt (tgt := 17) hx hb dX12_in_3 (by decide) (fun hc => ?_) (fun hc => ?_)
    · have hf := (OB_t hf hc)
      refine lv_iconst (v := 0) hx hb dX12_in_17 (by decide) ?_
      refine W.eq (g2 := F0 m 18 ls [.int (bI false)]) rfl ?_
      exact (OB_some hf) _ _ _ hP hS (lv_sub hl [] rfl)
    · have hf := (OB_f hf hc)
      refine lv_lload_n hx hb dX12_in_6 rfl (lv_at hl 0 rfl) ?_
      refine lv_lload hx hb dX12_in_7 (lv_at hl 2 rfl) ?_
      refine W.lcmp hx hb dX12_in_9 ?_
      refine lv_if_gt (tgt := 17) hx hb dX12_in_10 (by decide) (fun hc => ?_) (fun hc => ?_)
      · have hf := (OB_t hf hc)
        refine lv_iconst (v := 0) hx hb dX12_in_17 (by decide) ?_
        refine W.eq (g2 := F0 m 18 ls [.int (bI false)]) rfl ?_
        exact (OB_some hf) _ _ _ hP hS (lv_sub hl [] rfl)
      · have hf := (OB_f hf hc)
        refine lv_iconst (v := 1) hx hb dX12_in_13 (by decide) ?_
        refine lv_goto (tgt := 18) hx hb dX12_in_14 (by decide) ?_
        refine W.eq (g2 := F0 m 18 ls [.int (bI true)]) rfl ?_
        exact (OB_some hf) _ _ _ hP hS (lv_sub hl [] rfl)
def rm_X12_off : Room := { frames := 0, cells := 0, slots := 0, locals := 0 }
set_option maxRecDepth 100000 in
set_option maxHeartbeats 8000000 in
theorem c_X12_off {l : Launch} {G : GG} {a0 : Int32} {a1 : Int32} {M : Mem} {h : Int64}  {P9 : Int32 → Prop} (hf : OB (f_X12_off a0 a1) P9) : Met1 l yX12_off cX12_off 2 (some .int) rm_X12_off G [.int a0, .int a1] M h (QI0 G M h P9) := by
  unfold f_X12_off at hf
  refine xm_i0 (by decide) (Nat.le_of_ble_eq_true rfl) ?_
  intro p e s m args below meth c ls Q C hE hret hP hS hl
  have C : CallFix p m c cX12_off 2 s args TB RX12 := C
  have hx := C.1
  have hb := C.2.1
  have hl : lv_has ls 2 [(0, .int a0), (1, .int a1)] := hl
  refine lv_iload_n hx hb dX12_off_0 rfl (lv_at hl 0 rfl) ?_
  refine lv_iload_n hx hb dX12_off_1 rfl (lv_at hl 1 rfl) ?_
  refine xj (fun (x1 : Int32) => ∀ (H : Heap) (locs : List Loc) (ls : Array Slot), va_P G.1 vwCl (wl G M h) H → va_S (Aw G) s.heap H locs → lv_has ls 2 [] → W p l e rm_X12_off s m args below meth c H locs 0 0 Q (F0 m 14 ls [.int x1])) hf ?_ (fun hf => ?_)
  · rintro x1 hf H locs ls hP hS hl
    exact hret _ _ _ _ _ (OB_some hf) hP hS dX12_off_14
  · skip
    refine lv_icmp_ge (tgt := 11) hx hb dX12_off_2 (by decide) (fun hc => ?_) (fun hc => ?_)
    · have hf := (OB_t hf hc)
      refine lv_iload_n hx hb dX12_off_11 rfl (lv_at hl 0 rfl) ?_
      refine lv_iload_n hx hb dX12_off_12 rfl (lv_at hl 1 rfl) ?_
      refine lv_isub hx hb dX12_off_13 ?_
      exact (OB_some hf) _ _ _ hP hS (lv_sub hl [] rfl)
    · have hf := (OB_f hf hc)
      refine lv_iload_n hx hb dX12_off_5 rfl (lv_at hl 1 rfl) ?_
      refine lv_iload_n hx hb dX12_off_6 rfl (lv_at hl 0 rfl) ?_
      refine lv_isub hx hb dX12_off_7 ?_
      refine lv_goto (tgt := 14) hx hb dX12_off_8 (by decide) ?_
      exact (OB_some hf) _ _ _ hP hS (lv_sub hl [] rfl)
def rm_X12_bitsOf : Room := { frames := 0, cells := 0, slots := 0, locals := 0 }
set_option maxRecDepth 100000 in
set_option maxHeartbeats 8000000 in
theorem c_X12_bitsOf {l : Launch} {G : GG} {a0 : Int32} {M : Mem} {h : Int64}  {P9 : Int32 → Prop} (hf : OB (f_X12_bitsOf a0) P9) : Met1 l yX12_bitsOf cX12_bitsOf 3 (some .int) rm_X12_bitsOf G [.int a0] M h (QI0 G M h P9) := by
  unfold f_X12_bitsOf at hf
  refine xm_i0 (by decide) (Nat.le_of_ble_eq_true rfl) ?_
  intro p e s m args below meth c ls Q C hE hret hP hS hl
  have C : CallFix p m c cX12_bitsOf 3 s args TB RX12 := C
  have hx := C.1
  have hb := C.2.1
  have hl : lv_has ls 3 [(0, .int a0)] := hl
  refine lv_iconst (v := 0) hx hb dX12_bitsOf_0 (by decide) ?_
  refine lv_istore_n (lv' := [(1, .int 0), (0, .int a0)]) hx hb dX12_bitsOf_1 rfl hl (by decide) rfl (fun ls hl => ?_)
  refine lv_iconst (v := 0) hx hb dX12_bitsOf_2 (by decide) ?_
  refine lv_istore_n (lv' := [(2, .int 0), (1, .int 0), (0, .int a0)]) hx hb dX12_bitsOf_3 rfl hl (by decide) rfl (fun ls hl => ?_)
  refine xj (fun (x9 : Int32) => ∀ (H : Heap) (locs : List Loc) (ls : Array Slot), va_P G.1 vwCl (wl G M h) H → va_S (Aw G) s.heap H locs → lv_has ls 3 [(1, .int x9)] → W p l e rm_X12_bitsOf s m args below meth c H locs 0 0 Q (F0 m 24 ls [])) hf ?_ (fun hf => ?_)
  · rintro x9 hf H locs ls hP hS hl
    refine lv_iload_n hx hb dX12_bitsOf_24 rfl (lv_at hl 0 rfl) ?_
    exact hret _ _ _ _ _ (OB_some hf) hP hS dX12_bitsOf_25
  · refine (it_W (fun (zz : (Int32 × Int32)) => match zz with | (x7, x8) => ∀ (H : Heap) (locs : List Loc) (ls : Array Slot), va_P G.1 vwCl (wl G M h) H → va_S (Aw G) s.heap H locs → lv_has ls 3 [(0, .int a0), (1, .int x7), (2, .int x8)] → W p l e rm_X12_bitsOf s m args below meth c H locs 0 0 Q (F0 m 4 ls [])) hf ?_) _ _ _ hP hS (lv_sub hl [2, 1, 0] rfl)
    rintro ⟨x7, x8⟩ hf H locs ls hP hS hl
    unfold f_X12_bitsOf_b4 at hf
    refine lv_iload_n hx hb dX12_bitsOf_4 rfl (lv_at hl 2 rfl) ?_
    refine lv_bipush (v := 6) hx hb dX12_bitsOf_5 (by decide) ?_
    refine lv_icmp_ge (tgt := 24) hx hb dX12_bitsOf_7 (by decide) (fun hc => ?_) (fun hc => ?_)
    · have hf := (OB_t hf hc)
      exact (it_e hf) _ _ _ hP hS (lv_sub hl [1] rfl)
    · have hf := (OB_f hf hc)
      refine lv_iload_n hx hb dX12_bitsOf_10 rfl (lv_at hl 1 rfl) ?_
      refine lv_iload_n hx hb dX12_bitsOf_11 rfl (lv_at hl 0 rfl) ?_
      refine lv_iload_n hx hb dX12_bitsOf_12 rfl (lv_at hl 2 rfl) ?_
      refine x_ishr C dX12_bitsOf_13 ?_
      refine lv_iconst (v := 1) hx hb dX12_bitsOf_14 (by decide) ?_
      refine lv_iand hx hb dX12_bitsOf_15 ?_
      refine lv_iadd hx hb dX12_bitsOf_16 ?_
      refine lv_istore_n (lv' := [(1, .int (x7 + ((jshr a0 x8) &&& 1))), (0, .int a0), (2, .int x8)]) hx hb dX12_bitsOf_17 rfl hl (by decide) rfl (fun ls hl => ?_)
      refine lv_iinc (v := (x8 + 1)) (lv' := [(2, .int (x8 + 1)), (1, .int (x7 + ((jshr a0 x8) &&& 1))), (0, .int a0)]) hx hb dX12_bitsOf_18 hl (k := 2) rfl rfl (by decide) rfl (fun ls hl => ?_)
      refine lv_goto (tgt := 4) hx hb dX12_bitsOf_21 (by decide) ?_
      exact (it_c hf) _ _ _ hP hS (lv_sub hl [2, 1, 0] rfl)
def rm_X12_isLand : Room := { frames := 1, cells := 0, slots := 0, locals := 25 }
set_option maxRecDepth 100000 in
set_option maxHeartbeats 8000000 in
theorem c_X12_isLand {l : Launch} {G : GG} {a0 : Int32} {M : Mem} {h : Int64}  {P9 : Bool → Prop} (hf : OB (f_X12_isLand a0) P9) : Met1 l yX12_isLand cX12_isLand 1 (some .boolean) rm_X12_isLand G [.int a0] M h (QZ0 G M h P9) := by
  unfold f_X12_isLand at hf
  refine xm_z0 (by decide) (Nat.le_of_ble_eq_true rfl) ?_
  intro p e s m args below meth c ls Q C hE hret hP hS hl
  have C : CallFix p m c cX12_isLand 1 s args TB RX12 := C
  have hx := C.1
  have hb := C.2.1
  have hl : lv_has ls 1 [(0, .int a0)] := hl
  refine lv_iload_n hx hb dX12_isLand_0 rfl (lv_at hl 0 rfl) ?_
  refine lv_i2l hx hb dX12_isLand_1 rfl ?_
  refine lv_lconst (v := 0) hx hb dX12_isLand_2 (by decide) ?_
  refine lv_ldc2 hx hb C.2.2.2.1 (C.2.2.2.2 _ ckX12_90) dX12_isLand_3 ?_
  refine x_cz0 (rest := []) (x_runS C hE hP hS ykX12_in lkX12_92 (c_X12_in (OB_bind hf)) (by decide) rfl hl.1 (Nat.le_of_ble_eq_true rfl) dX12_isLand_6) hS (fun r1 H locs hf hP hS => ?_)
  exact hret _ _ _ _ _ (OB_some hf) hP hS dX12_isLand_9
def rm_X12_isCell : Room := { frames := 1, cells := 0, slots := 0, locals := 25 }
set_option maxRecDepth 100000 in
set_option maxHeartbeats 8000000 in
theorem c_X12_isCell {l : Launch} {G : GG} {a0 : Int32} {M : Mem} {h : Int64}  {P9 : Bool → Prop} (hf : OB (f_X12_isCell a0) P9) : Met1 l yX12_isCell cX12_isCell 1 (some .boolean) rm_X12_isCell G [.int a0] M h (QZ0 G M h P9) := by
  unfold f_X12_isCell at hf
  refine xm_z0 (by decide) (Nat.le_of_ble_eq_true rfl) ?_
  intro p e s m args below meth c ls Q C hE hret hP hS hl
  have C : CallFix p m c cX12_isCell 1 s args TB RX12 := C
  have hx := C.1
  have hb := C.2.1
  have hl : lv_has ls 1 [(0, .int a0)] := hl
  refine lv_iload_n hx hb dX12_isCell_0 rfl (lv_at hl 0 rfl) ?_
  refine lv_i2l hx hb dX12_isCell_1 rfl ?_
  refine lv_lconst (v := 0) hx hb dX12_isCell_2 (by decide) ?_
  refine lv_ldc2 hx hb C.2.2.2.1 (C.2.2.2.2 _ ckX12_96) dX12_isCell_3 ?_
  refine x_cz0 (rest := []) (x_runS C hE hP hS ykX12_in lkX12_92 (c_X12_in (OB_bind hf)) (by decide) rfl hl.1 (Nat.le_of_ble_eq_true rfl) dX12_isCell_6) hS (fun r1 H locs hf hP hS => ?_)
  exact hret _ _ _ _ _ (OB_some hf) hP hS dX12_isCell_9
def rm_X12_marksOn : Room := { frames := 0, cells := 0, slots := 0, locals := 0 }
set_option maxRecDepth 100000 in
set_option maxHeartbeats 8000000 in
theorem c_X12_marksOn {l : Launch} {G : GG} {a1 : Int32} {M : Mem} {h : Int64}  {P9 : Int32 → Prop} (hf : OB (f_X12_marksOn a1 M) P9) : Met1 l yX12_marksOn cX12_marksOn 4 (some .int) rm_X12_marksOn G [.ref (xa G 132), .int a1] M h (QI0 G M h P9) := by
  unfold f_X12_marksOn at hf
  refine xm_i0 (by decide) (Nat.le_of_ble_eq_true rfl) ?_
  intro p e s m args below meth c ls Q C hE hret hP hS hl
  have C : CallFix p m c cX12_marksOn 4 s args TB RX12 := C
  have hx := C.1
  have hb := C.2.1
  have hl : lv_has ls 4 [(0, .ref (xa G 132)), (1, .int a1)] := hl
  refine lv_iconst (v := 0) hx hb dX12_marksOn_0 (by decide) ?_
  refine lv_istore_n (lv' := [(2, .int 0), (0, .ref (xa G 132)), (1, .int a1)]) hx hb dX12_marksOn_1 rfl hl (by decide) rfl (fun ls hl => ?_)
  refine lv_iconst (v := 0) hx hb dX12_marksOn_2 (by decide) ?_
  refine lv_istore_n (lv' := [(3, .int 0), (2, .int 0), (0, .ref (xa G 132)), (1, .int a1)]) hx hb dX12_marksOn_3 rfl hl (by decide) rfl (fun ls hl => ?_)
  refine xj (fun (x15 : Int32) => ∀ (H : Heap) (locs : List Loc) (ls : Array Slot), va_P G.1 vwCl (wl G M h) H → va_S (Aw G) s.heap H locs → lv_has ls 4 [(2, .int x15)] → W p l e rm_X12_marksOn s m args below meth c H locs 0 0 Q (F0 m 36 ls [])) hf ?_ (fun hf => ?_)
  · rintro x15 hf H locs ls hP hS hl
    refine lv_iload_n hx hb dX12_marksOn_36 rfl (lv_at hl 0 rfl) ?_
    exact hret _ _ _ _ _ (OB_some hf) hP hS dX12_marksOn_37
  · refine (it_W (fun (zz : (Int32 × Int32)) => match zz with | (x13, x14) => ∀ (H : Heap) (locs : List Loc) (ls : Array Slot), va_P G.1 vwCl (wl G M h) H → va_S (Aw G) s.heap H locs → lv_has ls 4 [(0, .ref (xa G 132)), (1, .int a1), (2, .int x13), (3, .int x14)] → W p l e rm_X12_marksOn s m args below meth c H locs 0 0 Q (F0 m 4 ls [])) hf ?_) _ _ _ hP hS (lv_sub hl [2, 3, 1, 0] rfl)
    rintro ⟨x13, x14⟩ hf H locs ls hP hS hl
    unfold f_X12_marksOn_b4 at hf
    refine lv_iload_n hx hb dX12_marksOn_4 rfl (lv_at hl 3 rfl) ?_
    refine lv_aload_n hx hb dX12_marksOn_5 rfl (lv_at hl 0 rfl) ?_
    refine gfX12_98 C hE hP dX12_marksOn_6 ?_
    refine lv_icmp_ge (tgt := 36) hx hb dX12_marksOn_9 (by decide) (fun hc => ?_) (fun hc => ?_)
    · have hf := (OB_t hf hc)
      exact (it_e hf) _ _ _ hP hS (lv_sub hl [2] rfl)
    · have hf := (OB_f hf hc)
      refine lv_iload_n hx hb dX12_marksOn_12 rfl (lv_at hl 2 rfl) ?_
      refine lv_aload_n hx hb dX12_marksOn_13 rfl (lv_at hl 0 rfl) ?_
      refine gfX12_16 C hE hP dX12_marksOn_14 ?_
      refine lv_iload_n hx hb dX12_marksOn_17 rfl (lv_at hl 3 rfl) ?_
      obtain ⟨g16, hf⟩ := OB_g hf
      refine x_iald C hE hP sh135 g16 dX12_marksOn_18 ?_
      refine lv_iload_n hx hb dX12_marksOn_19 rfl (lv_at hl 1 rfl) ?_
      refine xj (fun (x17 : Bool) => ∀ (H : Heap) (locs : List Loc) (ls : Array Slot), va_P G.1 vwCl (wl G M h) H → va_S (Aw G) s.heap H locs → lv_has ls 4 [(0, .ref (xa G 132)), (1, .int a1), (3, .int x14)] → W p l e rm_X12_marksOn s m args below meth c H locs 0 0 Q (F0 m 28 ls [.int (bI x17), .int x13])) hf ?_ (fun hf => ?_)
      · rintro x17 hf H locs ls hP hS hl
        refine lv_iadd hx hb dX12_marksOn_28 ?_
        refine lv_istore_n (lv' := [(2, .int (x13 + (bI x17))), (0, .ref (xa G 132)), (1, .int a1), (3, .int x14)]) hx hb dX12_marksOn_29 rfl hl (by decide) rfl (fun ls hl => ?_)
        refine lv_iinc (v := (x14 + 1)) (lv' := [(3, .int (x14 + 1)), (2, .int (x13 + (bI x17))), (0, .ref (xa G 132)), (1, .int a1)]) hx hb dX12_marksOn_30 hl (k := 3) rfl rfl (by decide) rfl (fun ls hl => ?_)
        refine lv_goto (tgt := 4) hx hb dX12_marksOn_33 (by decide) ?_
        exact (it_c hf) _ _ _ hP hS (lv_sub hl [2, 3, 1, 0] rfl)
      · skip
        refine lv_icmp_ne (tgt := 27) hx hb dX12_marksOn_20 (by decide) (fun hc => ?_) (fun hc => ?_)
        · have hf := (OB_f hf hc)
          refine lv_iconst (v := 0) hx hb dX12_marksOn_27 (by decide) ?_
          refine W.eq (g2 := F0 m 28 ls [.int (bI false), .int x13]) rfl ?_
          exact (OB_some hf) _ _ _ hP hS (lv_sub hl [0, 1, 3] rfl)
        · have hf := (OB_t hf hc)
          refine lv_iconst (v := 1) hx hb dX12_marksOn_23 (by decide) ?_
          refine lv_goto (tgt := 28) hx hb dX12_marksOn_24 (by decide) ?_
          refine W.eq (g2 := F0 m 28 ls [.int (bI true), .int x13]) rfl ?_
          exact (OB_some hf) _ _ _ hP hS (lv_sub hl [0, 1, 3] rfl)
def rm_X12_cell : Room := { frames := 2, cells := 0, slots := 0, locals := 45 }
set_option maxRecDepth 100000 in
set_option maxHeartbeats 8000000 in
theorem c_X12_cell {l : Launch} {G : GG} {a1 : Int32} {a2 : Int32} {M : Mem} {h : Int64}  {P9 : (Int32 × Mem) → Prop} (hf : OB (f_X12_cell a1 a2 M) P9) : Met1 l yX12_cell cX12_cell 4 (some .int) rm_X12_cell G [.ref (xa G 132), .int a1, .int a2] M h (QI1 G h P9) := by
  unfold f_X12_cell at hf
  refine xm_i1 (by decide) (Nat.le_of_ble_eq_true rfl) ?_
  intro p e s m args below meth c ls Q C hE hret hP hS hl
  have C : CallFix p m c cX12_cell 4 s args TB RX12 := C
  have hx := C.1
  have hb := C.2.1
  have hl : lv_has ls 4 [(0, .ref (xa G 132)), (1, .int a1), (2, .int a2)] := hl
  refine lv_iload_n hx hb dX12_cell_0 rfl (lv_at hl 1 rfl) ?_
  refine lv_iconst (v := -1) hx hb dX12_cell_1 (by decide) ?_
  have hj12 : ∀ (H : Heap) (locs : List Loc) (ls : Array Slot), OB (f_X12_cell_j12_0 a1 a2 M) P9 → va_P G.1 vwCl (wl G M h) H → va_S (Aw G) s.heap H locs → lv_has ls 4 [(0, .ref (xa G 132)), (1, .int a1), (2, .int a2)] → W p l e rm_X12_cell s m args below meth c H locs 0 0 Q (F0 m 12 ls []) := by
    intro  H locs ls hf hP hS hl
    refine lv_iload_n hx hb dX12_cell_12 rfl (lv_at hl 2 rfl) ?_
    refine x_cz0 (rest := []) (x_runS C hE hP hS ykX12_isCell lkX12_105 (c_X12_isCell (OB_bind hf)) (by decide) rfl hl.1 (Nat.le_of_ble_eq_true rfl) dX12_cell_13) hS (fun r9 H locs hf hP hS => ?_)
    refine lv_if_ne (tgt := 22) hx hb dX12_cell_16 (by decide) (fun hc => ?_) (fun hc => ?_)
    · have hf := (OB_t hf (bI_t hc))
      refine lv_aload_n hx hb dX12_cell_22 rfl (lv_at hl 0 rfl) ?_
      refine lv_iload_n hx hb dX12_cell_23 rfl (lv_at hl 2 rfl) ?_
      refine x_ci0 (rest := []) (x_runV C hE hP hS ykX12_marksOn lkX12_108 sh132 rfl (c_X12_marksOn (OB_bind hf)) (by decide) rfl hl.1 (Nat.le_of_ble_eq_true rfl) dX12_cell_24) hS (fun r10 H locs hf hP hS => ?_)
      refine lv_if_le (tgt := 33) hx hb dX12_cell_27 (by decide) (fun hc => ?_) (fun hc => ?_)
      · have hf := (OB_t hf hc)
        refine lv_aload_n hx hb dX12_cell_33 rfl (lv_at hl 0 rfl) ?_
        refine gfX12_7 C hE hP dX12_cell_34 ?_
        refine lv_iload_n hx hb dX12_cell_37 rfl (lv_at hl 2 rfl) ?_
        obtain ⟨g11, hf⟩ := OB_g hf
        refine x_iald C hE hP sh133 g11 dX12_cell_38 ?_
        refine lv_istore_n (lv' := [(3, .int (M 133 (Int32.toNatClampNeg a2))), (0, .ref (xa G 132)), (1, .int a1), (2, .int a2)]) hx hb dX12_cell_39 rfl hl (by decide) rfl (fun ls hl => ?_)
        refine lv_aload_n hx hb dX12_cell_40 rfl (lv_at hl 1 rfl) ?_
        refine gfX12_7 C hE hP dX12_cell_41 ?_
        refine lv_iload_n hx hb dX12_cell_44 rfl (lv_at hl 3 rfl) ?_
        refine lv_iload_n hx hb dX12_cell_45 rfl (lv_at hl 2 rfl) ?_
        refine x_iast C hE hP hS sh133 g11 dX12_cell_46 (fun H locs hP hS => ?_)
        refine lv_iload_n hx hb dX12_cell_47 rfl (lv_at hl 0 rfl) ?_
        exact hret _ _ _ _ _ _ (OB_some hf) hP hS dX12_cell_48
      · have hf := (OB_f hf hc)
        refine lv_bipush (v := -103) hx hb dX12_cell_30 (by decide) ?_
        exact hret _ _ _ _ _ _ (OB_some hf) hP hS dX12_cell_32
    · have hf := (OB_f hf (bI_f hc))
      refine lv_bipush (v := -101) hx hb dX12_cell_19 (by decide) ?_
      exact hret _ _ _ _ _ _ (OB_some hf) hP hS dX12_cell_21
  refine lv_icmp_eq (tgt := 12) hx hb dX12_cell_2 (by decide) (fun hc => ?_) (fun hc => ?_)
  · have hf := (OB_t hf hc)
    exact hj12  _ _ _ hf hP hS (lv_sub hl [0, 1, 2] rfl)
  · have hf := (OB_f hf hc)
    refine lv_iload_n hx hb dX12_cell_5 rfl (lv_at hl 1 rfl) ?_
    refine x_cz0 (rest := []) (x_runS C hE hP hS ykX12_isLand lkX12_101 (c_X12_isLand (OB_bind hf)) (by decide) rfl hl.1 (Nat.le_of_ble_eq_true rfl) dX12_cell_6) hS (fun r12 H locs hf hP hS => ?_)
    refine lv_if_eq (tgt := 19) hx hb dX12_cell_9 (by decide) (fun hc => ?_) (fun hc => ?_)
    · have hf := (OB_f hf (bI_f hc))
      refine lv_bipush (v := -101) hx hb dX12_cell_19 (by decide) ?_
      exact hret _ _ _ _ _ _ (OB_some hf) hP hS dX12_cell_21
    · have hf := (OB_t hf (bI_t hc))
      exact hj12  _ _ _ hf hP hS (lv_sub hl [0, 1, 2] rfl)
def rm_X12_run : Room := { frames := 2, cells := 0, slots := 0, locals := 45 }
set_option maxRecDepth 100000 in
set_option maxHeartbeats 8000000 in
theorem c_X12_run {l : Launch} {G : GG} {a1 : Int32} {a2 : Int32} {a3 : Int32} {a4 : Int32} {M : Mem} {h : Int64}  {P9 : (Int32 × Mem) → Prop} (hf : OB (f_X12_run a1 a2 a3 a4 M) P9) : Met1 l yX12_run cX12_run 8 (some .int) rm_X12_run G [.ref (xa G 132), .int a1, .int a2, .int a3, .int a4] M h (QI1 G h P9) := by
  unfold f_X12_run at hf
  refine xm_i1 (by decide) (Nat.le_of_ble_eq_true rfl) ?_
  intro p e s m args below meth c ls Q C hE hret hP hS hl
  have C : CallFix p m c cX12_run 8 s args TB RX12 := C
  have hx := C.1
  have hb := C.2.1
  have hl : lv_has ls 8 [(0, .ref (xa G 132)), (1, .int a1), (2, .int a2), (3, .int a3), (4, .int a4)] := hl
  refine lv_iload_n hx hb dX12_run_0 rfl (lv_at hl 1 rfl) ?_
  refine x_cz0 (rest := []) (x_runS C hE hP hS ykX12_isLand lkX12_101 (c_X12_isLand (OB_bind hf)) (by decide) rfl hl.1 (Nat.le_of_ble_eq_true rfl) dX12_run_1) hS (fun r1 H locs hf hP hS => ?_)
  refine lv_if_eq (tgt := 31) hx hb dX12_run_4 (by decide) (fun hc => ?_) (fun hc => ?_)
  · have hf := (OB_f hf (bI_f hc))
    refine lv_bipush (v := -101) hx hb dX12_run_31 (by decide) ?_
    exact hret _ _ _ _ _ _ (OB_some hf) hP hS dX12_run_33
  · have hf := (OB_t hf (bI_t hc))
    refine lv_iload_n hx hb dX12_run_7 rfl (lv_at hl 2 rfl) ?_
    refine lv_i2l hx hb dX12_run_8 rfl ?_
    refine lv_lconst (v := 0) hx hb dX12_run_9 (by decide) ?_
    refine lv_ldc2 hx hb C.2.2.2.1 (C.2.2.2.2 _ ckX12_112) dX12_run_10 ?_
    refine x_cz0 (rest := []) (x_runS C hE hP hS ykX12_in lkX12_92 (c_X12_in (OB_bind hf)) (by decide) rfl hl.1 (Nat.le_of_ble_eq_true rfl) dX12_run_13) hS (fun r2 H locs hf hP hS => ?_)
    refine lv_if_eq (tgt := 31) hx hb dX12_run_16 (by decide) (fun hc => ?_) (fun hc => ?_)
    · have hf := (OB_f hf (bI_f hc))
      refine lv_bipush (v := -101) hx hb dX12_run_31 (by decide) ?_
      exact hret _ _ _ _ _ _ (OB_some hf) hP hS dX12_run_33
    · have hf := (OB_t hf (bI_t hc))
      refine lv_iload_n hx hb dX12_run_19 rfl (lv_at hl 3 rfl) ?_
      refine lv_i2l hx hb dX12_run_20 rfl ?_
      refine lv_lconst (v := 0) hx hb dX12_run_21 (by decide) ?_
      refine lv_ldc2 hx hb C.2.2.2.1 (C.2.2.2.2 _ ckX12_114) dX12_run_22 ?_
      refine x_cz0 (rest := []) (x_runS C hE hP hS ykX12_in lkX12_92 (c_X12_in (OB_bind hf)) (by decide) rfl hl.1 (Nat.le_of_ble_eq_true rfl) dX12_run_25) hS (fun r3 H locs hf hP hS => ?_)
      refine lv_if_ne (tgt := 34) hx hb dX12_run_28 (by decide) (fun hc => ?_) (fun hc => ?_)
      · have hf := (OB_t hf (bI_t hc))
        refine lv_iload hx hb dX12_run_34 (lv_at hl 4 rfl) ?_
        refine lv_i2l hx hb dX12_run_36 rfl ?_
        refine lv_lconst (v := 1) hx hb dX12_run_37 (by decide) ?_
        refine lv_ldc2 hx hb C.2.2.2.1 (C.2.2.2.2 _ ckX12_116) dX12_run_38 ?_
        refine x_cz0 (rest := []) (x_runS C hE hP hS ykX12_in lkX12_92 (c_X12_in (OB_bind hf)) (by decide) rfl hl.1 (Nat.le_of_ble_eq_true rfl) dX12_run_41) hS (fun r4 H locs hf hP hS => ?_)
        refine lv_if_ne (tgt := 50) hx hb dX12_run_44 (by decide) (fun hc => ?_) (fun hc => ?_)
        · have hf := (OB_t hf (bI_t hc))
          refine lv_iconst (v := 0) hx hb dX12_run_50 (by decide) ?_
          refine lv_istore (lv' := [(5, .int 0), (0, .ref (xa G 132)), (1, .int a1), (2, .int a2), (3, .int a3), (4, .int a4)]) hx hb dX12_run_51 hl (by decide) rfl (fun ls hl => ?_)
          refine lv_iconst (v := 0) hx hb dX12_run_53 (by decide) ?_
          refine lv_istore (lv' := [(6, .int 0), (5, .int 0), (0, .ref (xa G 132)), (1, .int a1), (2, .int a2), (3, .int a3), (4, .int a4)]) hx hb dX12_run_54 hl (by decide) rfl (fun ls hl => ?_)
          refine xj (fun (zz : (Int32 × Mem)) => match zz with | (x26, M27) => ∀ (H : Heap) (locs : List Loc) (ls : Array Slot), va_P G.1 vwCl (wl G M27 h) H → va_S (Aw G) s.heap H locs → lv_has ls 8 [(5, .int x26)] → W p l e rm_X12_run s m args below meth c H locs 0 0 Q (F0 m 133 ls [])) hf ?_ (fun hf => ?_)
          · rintro ⟨x26, M27⟩ hf H locs ls hP hS hl
            refine lv_iload hx hb dX12_run_133 (lv_at hl 0 rfl) ?_
            exact hret _ _ _ _ _ _ (OB_some hf) hP hS dX12_run_135
          · refine (it_W (fun (zz : (Int32 × Int32 × Mem)) => match zz with | (x23, x24, M25) => ∀ (H : Heap) (locs : List Loc) (ls : Array Slot), va_P G.1 vwCl (wl G M25 h) H → va_S (Aw G) s.heap H locs → lv_has ls 8 [(0, .ref (xa G 132)), (1, .int a1), (2, .int a2), (3, .int a3), (4, .int a4), (5, .int x23), (6, .int x24)] → W p l e rm_X12_run s m args below meth c H locs 0 0 Q (F0 m 56 ls [])) hf ?_) _ _ _ hP hS (lv_sub hl [2, 3, 4, 5, 6, 1, 0] rfl)
            rintro ⟨x23, x24, M25⟩ hf H locs ls hP hS hl
            unfold f_X12_run_b56 at hf
            refine lv_iload hx hb dX12_run_56 (lv_at hl 6 rfl) ?_
            refine lv_iload hx hb dX12_run_58 (lv_at hl 4 rfl) ?_
            refine lv_icmp_ge (tgt := 133) hx hb dX12_run_60 (by decide) (fun hc => ?_) (fun hc => ?_)
            · have hf := (OB_t hf hc)
              exact (it_e hf) _ _ _ hP hS (lv_sub hl [5] rfl)
            · have hf := (OB_f hf hc)
              refine lv_bipush (v := 16) hx hb dX12_run_63 (by decide) ?_
              refine lv_iload_n hx hb dX12_run_65 rfl (lv_at hl 2 rfl) ?_
              refine lv_imul hx hb dX12_run_66 ?_
              refine lv_iload_n hx hb dX12_run_67 rfl (lv_at hl 3 rfl) ?_
              refine lv_iload hx hb dX12_run_68 (lv_at hl 6 rfl) ?_
              refine lv_iadd hx hb dX12_run_70 ?_
              refine lv_bipush (v := 16) hx hb dX12_run_71 (by decide) ?_
              refine x_irem C dX12_run_73 (by decide) ?_
              refine lv_iadd hx hb dX12_run_74 ?_
              refine lv_istore (lv' := [(7, .int ((16 * a2) + (jrem (a3 + x24) 16))), (0, .ref (xa G 132)), (1, .int a1), (2, .int a2), (3, .int a3), (4, .int a4), (5, .int x23), (6, .int x24)]) hx hb dX12_run_75 hl (by decide) rfl (fun ls hl => ?_)
              refine lv_iload hx hb dX12_run_77 (lv_at hl 6 rfl) ?_
              refine lv_aload_n hx hb dX12_run_79 rfl (lv_at hl 1 rfl) ?_
              refine gfX12_7 C hE hP dX12_run_80 ?_
              refine lv_iload hx hb dX12_run_83 (lv_at hl 0 rfl) ?_
              obtain ⟨g28, hf⟩ := OB_g hf
              refine x_iald C hE hP sh133 g28 dX12_run_85 ?_
              refine lv_iconst (v := -1) hx hb dX12_run_86 (by decide) ?_
              refine xj (fun (x29 : Bool) => ∀ (H : Heap) (locs : List Loc) (ls : Array Slot), va_P G.1 vwCl (wl G M25 h) H → va_S (Aw G) s.heap H locs → lv_has ls 8 [(0, .ref (xa G 132)), (1, .int a1), (2, .int a2), (3, .int a3), (4, .int a4), (6, .int x24), (7, .int ((16 * a2) + (jrem (a3 + x24) 16)))] → W p l e rm_X12_run s m args below meth c H locs 0 0 Q (F0 m 95 ls [.int (bI x29), .int x23])) hf ?_ (fun hf => ?_)
              · rintro x29 hf H locs ls hP hS hl
                refine lv_iadd hx hb dX12_run_95 ?_
                refine lv_istore (lv' := [(5, .int (x23 + (bI x29))), (0, .ref (xa G 132)), (1, .int a1), (2, .int a2), (3, .int a3), (4, .int a4), (6, .int x24), (7, .int ((16 * a2) + (jrem (a3 + x24) 16)))]) hx hb dX12_run_96 hl (by decide) rfl (fun ls hl => ?_)
                refine lv_aload_n hx hb dX12_run_98 rfl (lv_at hl 1 rfl) ?_
                refine gfX12_7 C hE hP dX12_run_99 ?_
                refine lv_iload hx hb dX12_run_102 (lv_at hl 7 rfl) ?_
                refine lv_aload_n hx hb dX12_run_104 rfl (lv_at hl 1 rfl) ?_
                refine gfX12_7 C hE hP dX12_run_105 ?_
                refine lv_iload hx hb dX12_run_108 (lv_at hl 7 rfl) ?_
                refine x_iald C hE hP sh133 g28 dX12_run_110 ?_
                refine lv_iconst (v := -1) hx hb dX12_run_111 (by decide) ?_
                refine xj (fun (x30 : Int32) => ∀ (H : Heap) (locs : List Loc) (ls : Array Slot), va_P G.1 vwCl (wl G M25 h) H → va_S (Aw G) s.heap H locs → lv_has ls 8 [(0, .ref (xa G 132)), (1, .int a1), (2, .int a2), (3, .int a3), (4, .int a4), (5, .int (x23 + (bI x29))), (6, .int x24)] → W p l e rm_X12_run s m args below meth c H locs 0 0 Q (F0 m 126 ls [.int x30, .int ((16 * a2) + (jrem (a3 + x24) 16)), .ref (xa G 133)])) hf ?_ (fun hf => ?_)
                · rintro x30 hf H locs ls hP hS hl
                  refine x_iast C hE hP hS sh133 g28 dX12_run_126 (fun H locs hP hS => ?_)
                  refine lv_iinc (v := (x24 + 1)) (lv' := [(6, .int (x24 + 1)), (0, .ref (xa G 132)), (1, .int a1), (2, .int a2), (3, .int a3), (4, .int a4), (5, .int (x23 + (bI x29)))]) hx hb dX12_run_127 hl (k := 6) rfl rfl (by decide) rfl (fun ls hl => ?_)
                  refine lv_goto (tgt := 56) hx hb dX12_run_130 (by decide) ?_
                  exact (it_c hf) _ _ _ hP hS (lv_sub hl [1, 2, 3, 4, 5, 6, 0] rfl)
                · skip
                  refine lv_icmp_ne (tgt := 119) hx hb dX12_run_112 (by decide) (fun hc => ?_) (fun hc => ?_)
                  · have hf := (OB_f hf hc)
                    refine lv_aload_n hx hb dX12_run_119 rfl (lv_at hl 1 rfl) ?_
                    refine gfX12_7 C hE hP dX12_run_120 ?_
                    refine lv_iload hx hb dX12_run_123 (lv_at hl 7 rfl) ?_
                    refine x_iald C hE hP sh133 g28 dX12_run_125 ?_
                    exact (OB_some hf) _ _ _ hP hS (lv_sub hl [1, 2, 3, 4, 5, 0, 6] rfl)
                  · have hf := (OB_t hf hc)
                    refine lv_iload_n hx hb dX12_run_115 rfl (lv_at hl 2 rfl) ?_
                    refine lv_goto (tgt := 126) hx hb dX12_run_116 (by decide) ?_
                    exact (OB_some hf) _ _ _ hP hS (lv_sub hl [1, 2, 3, 4, 5, 0, 6] rfl)
              · skip
                refine lv_icmp_ne (tgt := 94) hx hb dX12_run_87 (by decide) (fun hc => ?_) (fun hc => ?_)
                · have hf := (OB_f hf hc)
                  refine lv_iconst (v := 0) hx hb dX12_run_94 (by decide) ?_
                  refine W.eq (g2 := F0 m 95 ls [.int (bI false), .int x23]) rfl ?_
                  exact (OB_some hf) _ _ _ hP hS (lv_sub hl [1, 2, 3, 4, 5, 7, 0] rfl)
                · have hf := (OB_t hf hc)
                  refine lv_iconst (v := 1) hx hb dX12_run_90 (by decide) ?_
                  refine lv_goto (tgt := 95) hx hb dX12_run_91 (by decide) ?_
                  refine W.eq (g2 := F0 m 95 ls [.int (bI true), .int x23]) rfl ?_
                  exact (OB_some hf) _ _ _ hP hS (lv_sub hl [1, 2, 3, 4, 5, 7, 0] rfl)
        · have hf := (OB_f hf (bI_f hc))
          refine lv_bipush (v := -102) hx hb dX12_run_47 (by decide) ?_
          exact hret _ _ _ _ _ _ (OB_some hf) hP hS dX12_run_49
      · have hf := (OB_f hf (bI_f hc))
        refine lv_bipush (v := -101) hx hb dX12_run_31 (by decide) ?_
        exact hret _ _ _ _ _ _ (OB_some hf) hP hS dX12_run_33
def rm_X12_cellsOf : Room := { frames := 0, cells := 0, slots := 0, locals := 0 }
set_option maxRecDepth 100000 in
set_option maxHeartbeats 8000000 in
theorem c_X12_cellsOf {l : Launch} {G : GG} {a1 : Int32} {M : Mem} {h : Int64}  {P9 : Int32 → Prop} (hf : OB (f_X12_cellsOf a1 M) P9) : Met1 l yX12_cellsOf cX12_cellsOf 4 (some .int) rm_X12_cellsOf G [.ref (xa G 132), .int a1] M h (QI0 G M h P9) := by
  unfold f_X12_cellsOf at hf
  refine xm_i0 (by decide) (Nat.le_of_ble_eq_true rfl) ?_
  intro p e s m args below meth c ls Q C hE hret hP hS hl
  have C : CallFix p m c cX12_cellsOf 4 s args TB RX12 := C
  have hx := C.1
  have hb := C.2.1
  have hl : lv_has ls 4 [(0, .ref (xa G 132)), (1, .int a1)] := hl
  refine lv_iconst (v := 0) hx hb dX12_cellsOf_0 (by decide) ?_
  refine lv_istore_n (lv' := [(2, .int 0), (0, .ref (xa G 132)), (1, .int a1)]) hx hb dX12_cellsOf_1 rfl hl (by decide) rfl (fun ls hl => ?_)
  refine lv_iconst (v := 0) hx hb dX12_cellsOf_2 (by decide) ?_
  refine lv_istore_n (lv' := [(3, .int 0), (2, .int 0), (0, .ref (xa G 132)), (1, .int a1)]) hx hb dX12_cellsOf_3 rfl hl (by decide) rfl (fun ls hl => ?_)
  refine xj (fun (x15 : Int32) => ∀ (H : Heap) (locs : List Loc) (ls : Array Slot), va_P G.1 vwCl (wl G M h) H → va_S (Aw G) s.heap H locs → lv_has ls 4 [(2, .int x15)] → W p l e rm_X12_cellsOf s m args below meth c H locs 0 0 Q (F0 m 35 ls [])) hf ?_ (fun hf => ?_)
  · rintro x15 hf H locs ls hP hS hl
    refine lv_iload_n hx hb dX12_cellsOf_35 rfl (lv_at hl 0 rfl) ?_
    exact hret _ _ _ _ _ (OB_some hf) hP hS dX12_cellsOf_36
  · refine (it_W (fun (zz : (Int32 × Int32)) => match zz with | (x13, x14) => ∀ (H : Heap) (locs : List Loc) (ls : Array Slot), va_P G.1 vwCl (wl G M h) H → va_S (Aw G) s.heap H locs → lv_has ls 4 [(0, .ref (xa G 132)), (1, .int a1), (2, .int x13), (3, .int x14)] → W p l e rm_X12_cellsOf s m args below meth c H locs 0 0 Q (F0 m 4 ls [])) hf ?_) _ _ _ hP hS (lv_sub hl [2, 3, 1, 0] rfl)
    rintro ⟨x13, x14⟩ hf H locs ls hP hS hl
    unfold f_X12_cellsOf_b4 at hf
    refine lv_iload_n hx hb dX12_cellsOf_4 rfl (lv_at hl 3 rfl) ?_
    refine lv_sipush (v := 128) hx hb dX12_cellsOf_5 (by decide) ?_
    refine lv_icmp_ge (tgt := 35) hx hb dX12_cellsOf_8 (by decide) (fun hc => ?_) (fun hc => ?_)
    · have hf := (OB_t hf hc)
      exact (it_e hf) _ _ _ hP hS (lv_sub hl [2] rfl)
    · have hf := (OB_f hf hc)
      refine lv_iload_n hx hb dX12_cellsOf_11 rfl (lv_at hl 2 rfl) ?_
      refine lv_aload_n hx hb dX12_cellsOf_12 rfl (lv_at hl 0 rfl) ?_
      refine gfX12_7 C hE hP dX12_cellsOf_13 ?_
      refine lv_iload_n hx hb dX12_cellsOf_16 rfl (lv_at hl 3 rfl) ?_
      obtain ⟨g16, hf⟩ := OB_g hf
      refine x_iald C hE hP sh133 g16 dX12_cellsOf_17 ?_
      refine lv_iload_n hx hb dX12_cellsOf_18 rfl (lv_at hl 1 rfl) ?_
      refine xj (fun (x17 : Bool) => ∀ (H : Heap) (locs : List Loc) (ls : Array Slot), va_P G.1 vwCl (wl G M h) H → va_S (Aw G) s.heap H locs → lv_has ls 4 [(0, .ref (xa G 132)), (1, .int a1), (3, .int x14)] → W p l e rm_X12_cellsOf s m args below meth c H locs 0 0 Q (F0 m 27 ls [.int (bI x17), .int x13])) hf ?_ (fun hf => ?_)
      · rintro x17 hf H locs ls hP hS hl
        refine lv_iadd hx hb dX12_cellsOf_27 ?_
        refine lv_istore_n (lv' := [(2, .int (x13 + (bI x17))), (0, .ref (xa G 132)), (1, .int a1), (3, .int x14)]) hx hb dX12_cellsOf_28 rfl hl (by decide) rfl (fun ls hl => ?_)
        refine lv_iinc (v := (x14 + 1)) (lv' := [(3, .int (x14 + 1)), (2, .int (x13 + (bI x17))), (0, .ref (xa G 132)), (1, .int a1)]) hx hb dX12_cellsOf_29 hl (k := 3) rfl rfl (by decide) rfl (fun ls hl => ?_)
        refine lv_goto (tgt := 4) hx hb dX12_cellsOf_32 (by decide) ?_
        exact (it_c hf) _ _ _ hP hS (lv_sub hl [2, 3, 1, 0] rfl)
      · skip
        refine lv_icmp_ne (tgt := 26) hx hb dX12_cellsOf_19 (by decide) (fun hc => ?_) (fun hc => ?_)
        · have hf := (OB_f hf hc)
          refine lv_iconst (v := 0) hx hb dX12_cellsOf_26 (by decide) ?_
          refine W.eq (g2 := F0 m 27 ls [.int (bI false), .int x13]) rfl ?_
          exact (OB_some hf) _ _ _ hP hS (lv_sub hl [0, 1, 3] rfl)
        · have hf := (OB_t hf hc)
          refine lv_iconst (v := 1) hx hb dX12_cellsOf_22 (by decide) ?_
          refine lv_goto (tgt := 27) hx hb dX12_cellsOf_23 (by decide) ?_
          refine W.eq (g2 := F0 m 27 ls [.int (bI true), .int x13]) rfl ?_
          exact (OB_some hf) _ _ _ hP hS (lv_sub hl [0, 1, 3] rfl)
def rm_X12_leastCell : Room := { frames := 0, cells := 0, slots := 0, locals := 0 }
set_option maxRecDepth 100000 in
set_option maxHeartbeats 8000000 in
theorem c_X12_leastCell {l : Launch} {G : GG} {a1 : Int32} {M : Mem} {h : Int64}  {P9 : Int32 → Prop} (hf : OB (f_X12_leastCell a1 M) P9) : Met1 l yX12_leastCell cX12_leastCell 3 (some .int) rm_X12_leastCell G [.ref (xa G 132), .int a1] M h (QI0 G M h P9) := by
  unfold f_X12_leastCell at hf
  refine xm_i0 (by decide) (Nat.le_of_ble_eq_true rfl) ?_
  intro p e s m args below meth c ls Q C hE hret hP hS hl
  have C : CallFix p m c cX12_leastCell 3 s args TB RX12 := C
  have hx := C.1
  have hb := C.2.1
  have hl : lv_has ls 3 [(0, .ref (xa G 132)), (1, .int a1)] := hl
  refine lv_iconst (v := 0) hx hb dX12_leastCell_0 (by decide) ?_
  refine lv_istore_n (lv' := [(2, .int 0), (0, .ref (xa G 132)), (1, .int a1)]) hx hb dX12_leastCell_1 rfl hl (by decide) rfl (fun ls hl => ?_)
  refine xj (it_P (fun (_ : Unit) => ∀ (H : Heap) (locs : List Loc) (ls : Array Slot), va_P G.1 vwCl (wl G M h) H → va_S (Aw G) s.heap H locs → lv_has ls 3 [] → W p l e rm_X12_leastCell s m args below meth c H locs 0 0 Q (F0 m 27 ls [])) P9) hf ?_ (fun hf => ?_)
  · rintro (_ | v) hf
    · intro H locs ls hP hS hl
      refine lv_iconst (v := -1) hx hb dX12_leastCell_27 (by decide) ?_
      exact hret _ _ _ _ _ (OB_some hf) hP hS dX12_leastCell_28
    · exact it_q hf
  · refine (it_W (fun (x5 : Int32) => ∀ (H : Heap) (locs : List Loc) (ls : Array Slot), va_P G.1 vwCl (wl G M h) H → va_S (Aw G) s.heap H locs → lv_has ls 3 [(0, .ref (xa G 132)), (1, .int a1), (2, .int x5)] → W p l e rm_X12_leastCell s m args below meth c H locs 0 0 Q (F0 m 2 ls [])) hf ?_) _ _ _ hP hS (lv_sub hl [1, 2, 0] rfl)
    rintro x5 hf H locs ls hP hS hl
    unfold f_X12_leastCell_b2 at hf
    refine lv_iload_n hx hb dX12_leastCell_2 rfl (lv_at hl 2 rfl) ?_
    refine lv_sipush (v := 128) hx hb dX12_leastCell_3 (by decide) ?_
    refine lv_icmp_ge (tgt := 27) hx hb dX12_leastCell_6 (by decide) (fun hc => ?_) (fun hc => ?_)
    · have hf := (OB_t hf hc)
      exact (it_e hf) _ _ _ hP hS (lv_sub hl [] rfl)
    · have hf := (OB_f hf hc)
      refine lv_aload_n hx hb dX12_leastCell_9 rfl (lv_at hl 0 rfl) ?_
      refine gfX12_7 C hE hP dX12_leastCell_10 ?_
      refine lv_iload_n hx hb dX12_leastCell_13 rfl (lv_at hl 2 rfl) ?_
      obtain ⟨g6, hf⟩ := OB_g hf
      refine x_iald C hE hP sh133 g6 dX12_leastCell_14 ?_
      refine lv_iload_n hx hb dX12_leastCell_15 rfl (lv_at hl 1 rfl) ?_
      refine lv_icmp_ne (tgt := 21) hx hb dX12_leastCell_16 (by decide) (fun hc => ?_) (fun hc => ?_)
      · have hf := (OB_f hf hc)
        refine lv_iinc (v := (x5 + 1)) (lv' := [(2, .int (x5 + 1)), (0, .ref (xa G 132)), (1, .int a1)]) hx hb dX12_leastCell_21 hl (k := 2) rfl rfl (by decide) rfl (fun ls hl => ?_)
        refine lv_goto (tgt := 2) hx hb dX12_leastCell_24 (by decide) ?_
        exact (it_c hf) _ _ _ hP hS (lv_sub hl [1, 2, 0] rfl)
      · have hf := (OB_t hf hc)
        refine lv_iload_n hx hb dX12_leastCell_19 rfl (lv_at hl 2 rfl) ?_
        exact hret _ _ _ _ _ (it_r hf) hP hS dX12_leastCell_20
def rm_X12_marksOf : Room := { frames := 0, cells := 0, slots := 0, locals := 0 }
set_option maxRecDepth 100000 in
set_option maxHeartbeats 8000000 in
theorem c_X12_marksOf {l : Launch} {G : GG} {a1 : Int32} {M : Mem} {h : Int64}  {P9 : Int32 → Prop} (hf : OB (f_X12_marksOf a1 M) P9) : Met1 l yX12_marksOf cX12_marksOf 4 (some .int) rm_X12_marksOf G [.ref (xa G 132), .int a1] M h (QI0 G M h P9) := by
  unfold f_X12_marksOf at hf
  refine xm_i0 (by decide) (Nat.le_of_ble_eq_true rfl) ?_
  intro p e s m args below meth c ls Q C hE hret hP hS hl
  have C : CallFix p m c cX12_marksOf 4 s args TB RX12 := C
  have hx := C.1
  have hb := C.2.1
  have hl : lv_has ls 4 [(0, .ref (xa G 132)), (1, .int a1)] := hl
  refine lv_iconst (v := 0) hx hb dX12_marksOf_0 (by decide) ?_
  refine lv_istore_n (lv' := [(2, .int 0), (0, .ref (xa G 132)), (1, .int a1)]) hx hb dX12_marksOf_1 rfl hl (by decide) rfl (fun ls hl => ?_)
  refine lv_iconst (v := 0) hx hb dX12_marksOf_2 (by decide) ?_
  refine lv_istore_n (lv' := [(3, .int 0), (2, .int 0), (0, .ref (xa G 132)), (1, .int a1)]) hx hb dX12_marksOf_3 rfl hl (by decide) rfl (fun ls hl => ?_)
  refine xj (fun (x18 : Int32) => ∀ (H : Heap) (locs : List Loc) (ls : Array Slot), va_P G.1 vwCl (wl G M h) H → va_S (Aw G) s.heap H locs → lv_has ls 4 [(2, .int x18)] → W p l e rm_X12_marksOf s m args below meth c H locs 0 0 Q (F0 m 41 ls [])) hf ?_ (fun hf => ?_)
  · rintro x18 hf H locs ls hP hS hl
    refine lv_iload_n hx hb dX12_marksOf_41 rfl (lv_at hl 0 rfl) ?_
    exact hret _ _ _ _ _ (OB_some hf) hP hS dX12_marksOf_42
  · refine (it_W (fun (zz : (Int32 × Int32)) => match zz with | (x16, x17) => ∀ (H : Heap) (locs : List Loc) (ls : Array Slot), va_P G.1 vwCl (wl G M h) H → va_S (Aw G) s.heap H locs → lv_has ls 4 [(0, .ref (xa G 132)), (1, .int a1), (2, .int x16), (3, .int x17)] → W p l e rm_X12_marksOf s m args below meth c H locs 0 0 Q (F0 m 4 ls [])) hf ?_) _ _ _ hP hS (lv_sub hl [2, 3, 1, 0] rfl)
    rintro ⟨x16, x17⟩ hf H locs ls hP hS hl
    unfold f_X12_marksOf_b4 at hf
    refine lv_iload_n hx hb dX12_marksOf_4 rfl (lv_at hl 3 rfl) ?_
    refine lv_aload_n hx hb dX12_marksOf_5 rfl (lv_at hl 0 rfl) ?_
    refine gfX12_98 C hE hP dX12_marksOf_6 ?_
    refine lv_icmp_ge (tgt := 41) hx hb dX12_marksOf_9 (by decide) (fun hc => ?_) (fun hc => ?_)
    · have hf := (OB_t hf hc)
      exact (it_e hf) _ _ _ hP hS (lv_sub hl [2] rfl)
    · have hf := (OB_f hf hc)
      refine lv_iload_n hx hb dX12_marksOf_12 rfl (lv_at hl 2 rfl) ?_
      refine lv_aload_n hx hb dX12_marksOf_13 rfl (lv_at hl 0 rfl) ?_
      refine gfX12_7 C hE hP dX12_marksOf_14 ?_
      refine lv_aload_n hx hb dX12_marksOf_17 rfl (lv_at hl 0 rfl) ?_
      refine gfX12_16 C hE hP dX12_marksOf_18 ?_
      refine lv_iload_n hx hb dX12_marksOf_21 rfl (lv_at hl 3 rfl) ?_
      obtain ⟨g19, hf⟩ := OB_g hf
      refine x_iald C hE hP sh135 g19 dX12_marksOf_22 ?_
      obtain ⟨g20, hf⟩ := OB_g hf
      refine x_iald C hE hP sh133 g20 dX12_marksOf_23 ?_
      refine lv_iload_n hx hb dX12_marksOf_24 rfl (lv_at hl 1 rfl) ?_
      refine xj (fun (x21 : Bool) => ∀ (H : Heap) (locs : List Loc) (ls : Array Slot), va_P G.1 vwCl (wl G M h) H → va_S (Aw G) s.heap H locs → lv_has ls 4 [(0, .ref (xa G 132)), (1, .int a1), (3, .int x17)] → W p l e rm_X12_marksOf s m args below meth c H locs 0 0 Q (F0 m 33 ls [.int (bI x21), .int x16])) hf ?_ (fun hf => ?_)
      · rintro x21 hf H locs ls hP hS hl
        refine lv_iadd hx hb dX12_marksOf_33 ?_
        refine lv_istore_n (lv' := [(2, .int (x16 + (bI x21))), (0, .ref (xa G 132)), (1, .int a1), (3, .int x17)]) hx hb dX12_marksOf_34 rfl hl (by decide) rfl (fun ls hl => ?_)
        refine lv_iinc (v := (x17 + 1)) (lv' := [(3, .int (x17 + 1)), (2, .int (x16 + (bI x21))), (0, .ref (xa G 132)), (1, .int a1)]) hx hb dX12_marksOf_35 hl (k := 3) rfl rfl (by decide) rfl (fun ls hl => ?_)
        refine lv_goto (tgt := 4) hx hb dX12_marksOf_38 (by decide) ?_
        exact (it_c hf) _ _ _ hP hS (lv_sub hl [2, 3, 1, 0] rfl)
      · skip
        refine lv_icmp_ne (tgt := 32) hx hb dX12_marksOf_25 (by decide) (fun hc => ?_) (fun hc => ?_)
        · have hf := (OB_f hf hc)
          refine lv_iconst (v := 0) hx hb dX12_marksOf_32 (by decide) ?_
          refine W.eq (g2 := F0 m 33 ls [.int (bI false), .int x16]) rfl ?_
          exact (OB_some hf) _ _ _ hP hS (lv_sub hl [0, 1, 3] rfl)
        · have hf := (OB_t hf hc)
          refine lv_iconst (v := 1) hx hb dX12_marksOf_28 (by decide) ?_
          refine lv_goto (tgt := 33) hx hb dX12_marksOf_29 (by decide) ?_
          refine W.eq (g2 := F0 m 33 ls [.int (bI true), .int x16]) rfl ?_
          exact (OB_some hf) _ _ _ hP hS (lv_sub hl [0, 1, 3] rfl)
def rm_X12_land : Room := { frames := 2, cells := 0, slots := 0, locals := 45 }
set_option maxRecDepth 100000 in
set_option maxHeartbeats 8000000 in
theorem c_X12_land {l : Launch} {G : GG} {a1 : Int32} {a2 : Int32} {M : Mem} {h : Int64}  {P9 : Int32 → Prop} (hf : OB (f_X12_land a1 a2 M) P9) : Met1 l yX12_land cX12_land 3 (some .int) rm_X12_land G [.ref (xa G 132), .int a1, .int a2] M h (QI0 G M h P9) := by
  unfold f_X12_land at hf
  refine xm_i0 (by decide) (Nat.le_of_ble_eq_true rfl) ?_
  intro p e s m args below meth c ls Q C hE hret hP hS hl
  have C : CallFix p m c cX12_land 3 s args TB RX12 := C
  have hx := C.1
  have hb := C.2.1
  have hl : lv_has ls 3 [(0, .ref (xa G 132)), (1, .int a1), (2, .int a2)] := hl
  refine lv_iload_n hx hb dX12_land_0 rfl (lv_at hl 1 rfl) ?_
  refine x_cz0 (rest := []) (x_runS C hE hP hS ykX12_isLand lkX12_101 (c_X12_isLand (OB_bind hf)) (by decide) rfl hl.1 (Nat.le_of_ble_eq_true rfl) dX12_land_1) hS (fun r1 H locs hf hP hS => ?_)
  refine lv_if_ne (tgt := 10) hx hb dX12_land_4 (by decide) (fun hc => ?_) (fun hc => ?_)
  · have hf := (OB_t hf (bI_t hc))
    refine lv_iload_n hx hb dX12_land_10 rfl (lv_at hl 2 rfl) ?_
    refine lv_i2l hx hb dX12_land_11 rfl ?_
    refine lv_lconst (v := 0) hx hb dX12_land_12 (by decide) ?_
    refine lv_ldc2 hx hb C.2.2.2.1 (C.2.2.2.2 _ ckX12_118) dX12_land_13 ?_
    refine x_cz0 (rest := []) (x_runS C hE hP hS ykX12_in lkX12_92 (c_X12_in (OB_bind hf)) (by decide) rfl hl.1 (Nat.le_of_ble_eq_true rfl) dX12_land_16) hS (fun r2 H locs hf hP hS => ?_)
    refine lv_if_ne (tgt := 25) hx hb dX12_land_19 (by decide) (fun hc => ?_) (fun hc => ?_)
    · have hf := (OB_t hf (bI_t hc))
      refine lv_iload_n hx hb dX12_land_25 rfl (lv_at hl 2 rfl) ?_
      refine xj (fun (x9 : Int32) => ∀ (H : Heap) (locs : List Loc) (ls : Array Slot), va_P G.1 vwCl (wl G M h) H → va_S (Aw G) s.heap H locs → lv_has ls 3 [] → W p l e rm_X12_land s m args below meth c H locs 0 0 Q (F0 m 55 ls [.int x9])) hf ?_ (fun hf => ?_)
      · rintro x9 hf H locs ls hP hS hl
        exact hret _ _ _ _ _ (OB_some hf) hP hS dX12_land_55
      · skip
        refine lv_if_ne (tgt := 37) hx hb dX12_land_26 (by decide) (fun hc => ?_) (fun hc => ?_)
        · have hf := (OB_f hf hc)
          refine lv_iload_n hx hb dX12_land_37 rfl (lv_at hl 2 rfl) ?_
          refine lv_iconst (v := 1) hx hb dX12_land_38 (by decide) ?_
          refine lv_icmp_ne (tgt := 50) hx hb dX12_land_39 (by decide) (fun hc => ?_) (fun hc => ?_)
          · have hf := (OB_f hf hc)
            refine lv_aload_n hx hb dX12_land_50 rfl (lv_at hl 0 rfl) ?_
            refine lv_iload_n hx hb dX12_land_51 rfl (lv_at hl 1 rfl) ?_
            refine x_ci0 (rest := []) (x_runV C hE hP hS ykX12_marksOf lkX12_126 sh132 rfl (c_X12_marksOf (OB_bind hf)) (by decide) rfl hl.1 (Nat.le_of_ble_eq_true rfl) dX12_land_52) hS (fun r10 H locs hf hP hS => ?_)
            exact (OB_some hf) _ _ _ hP hS (lv_sub hl [] rfl)
          · have hf := (OB_t hf hc)
            refine lv_aload_n hx hb dX12_land_42 rfl (lv_at hl 0 rfl) ?_
            refine lv_iload_n hx hb dX12_land_43 rfl (lv_at hl 1 rfl) ?_
            refine x_ci0 (rest := []) (x_runV C hE hP hS ykX12_leastCell lkX12_123 sh132 rfl (c_X12_leastCell (OB_bind hf)) (by decide) rfl hl.1 (Nat.le_of_ble_eq_true rfl) dX12_land_44) hS (fun r11 H locs hf hP hS => ?_)
            refine lv_goto (tgt := 55) hx hb dX12_land_47 (by decide) ?_
            exact (OB_some hf) _ _ _ hP hS (lv_sub hl [] rfl)
        · have hf := (OB_t hf hc)
          refine lv_aload_n hx hb dX12_land_29 rfl (lv_at hl 0 rfl) ?_
          refine lv_iload_n hx hb dX12_land_30 rfl (lv_at hl 1 rfl) ?_
          refine x_ci0 (rest := []) (x_runV C hE hP hS ykX12_cellsOf lkX12_120 sh132 rfl (c_X12_cellsOf (OB_bind hf)) (by decide) rfl hl.1 (Nat.le_of_ble_eq_true rfl) dX12_land_31) hS (fun r12 H locs hf hP hS => ?_)
          refine lv_goto (tgt := 55) hx hb dX12_land_34 (by decide) ?_
          exact (OB_some hf) _ _ _ hP hS (lv_sub hl [] rfl)
    · have hf := (OB_f hf (bI_f hc))
      refine lv_bipush (v := -102) hx hb dX12_land_22 (by decide) ?_
      exact hret _ _ _ _ _ (OB_some hf) hP hS dX12_land_24
  · have hf := (OB_f hf (bI_f hc))
    refine lv_bipush (v := -101) hx hb dX12_land_7 (by decide) ?_
    exact hret _ _ _ _ _ (OB_some hf) hP hS dX12_land_9
def rm_X12_mark : Room := { frames := 2, cells := 0, slots := 0, locals := 45 }
set_option maxRecDepth 100000 in
set_option maxHeartbeats 8000000 in
theorem c_X12_mark {l : Launch} {G : GG} {a1 : Int32} {a2 : Int32} {a3 : Int32} {M : Mem} {h : Int64}  {P9 : (Int32 × Mem) → Prop} (hf : OB (f_X12_mark a1 a2 a3 M) P9) : Met1 l yX12_mark cX12_mark 4 (some .int) rm_X12_mark G [.ref (xa G 132), .int a1, .int a2, .int a3] M h (QI1 G h P9) := by
  unfold f_X12_mark at hf
  refine xm_i1 (by decide) (Nat.le_of_ble_eq_true rfl) ?_
  intro p e s m args below meth c ls Q C hE hret hP hS hl
  have C : CallFix p m c cX12_mark 4 s args TB RX12 := C
  have hx := C.1
  have hb := C.2.1
  have hl : lv_has ls 4 [(0, .ref (xa G 132)), (1, .int a1), (2, .int a2), (3, .int a3)] := hl
  refine lv_iload_n hx hb dX12_mark_0 rfl (lv_at hl 2 rfl) ?_
  refine x_cz0 (rest := []) (x_runS C hE hP hS ykX12_isCell lkX12_105 (c_X12_isCell (OB_bind hf)) (by decide) rfl hl.1 (Nat.le_of_ble_eq_true rfl) dX12_mark_1) hS (fun r1 H locs hf hP hS => ?_)
  refine lv_if_eq (tgt := 17) hx hb dX12_mark_4 (by decide) (fun hc => ?_) (fun hc => ?_)
  · have hf := (OB_f hf (bI_f hc))
    refine lv_bipush (v := -101) hx hb dX12_mark_17 (by decide) ?_
    exact hret _ _ _ _ _ _ (OB_some hf) hP hS dX12_mark_19
  · have hf := (OB_t hf (bI_t hc))
    refine lv_aload_n hx hb dX12_mark_7 rfl (lv_at hl 0 rfl) ?_
    refine gfX12_7 C hE hP dX12_mark_8 ?_
    refine lv_iload_n hx hb dX12_mark_11 rfl (lv_at hl 2 rfl) ?_
    obtain ⟨g2, hf⟩ := OB_g hf
    refine x_iald C hE hP sh133 g2 dX12_mark_12 ?_
    refine lv_iconst (v := -1) hx hb dX12_mark_13 (by decide) ?_
    refine lv_icmp_ne (tgt := 20) hx hb dX12_mark_14 (by decide) (fun hc => ?_) (fun hc => ?_)
    · have hf := (OB_f hf hc)
      refine lv_iload_n hx hb dX12_mark_20 rfl (lv_at hl 1 rfl) ?_
      refine lv_i2l hx hb dX12_mark_21 rfl ?_
      refine lv_lconst (v := 0) hx hb dX12_mark_22 (by decide) ?_
      refine lv_ldc2 hx hb C.2.2.2.1 (C.2.2.2.2 _ ckX12_90) dX12_mark_23 ?_
      refine x_cz0 (rest := []) (x_runS C hE hP hS ykX12_in lkX12_92 (c_X12_in (OB_bind hf)) (by decide) rfl hl.1 (Nat.le_of_ble_eq_true rfl) dX12_mark_26) hS (fun r3 H locs hf hP hS => ?_)
      refine lv_if_eq (tgt := 44) hx hb dX12_mark_29 (by decide) (fun hc => ?_) (fun hc => ?_)
      · have hf := (OB_f hf (bI_f hc))
        refine lv_bipush (v := -102) hx hb dX12_mark_44 (by decide) ?_
        exact hret _ _ _ _ _ _ (OB_some hf) hP hS dX12_mark_46
      · have hf := (OB_t hf (bI_t hc))
        refine lv_iload_n hx hb dX12_mark_32 rfl (lv_at hl 3 rfl) ?_
        refine lv_i2l hx hb dX12_mark_33 rfl ?_
        refine lv_lconst (v := 0) hx hb dX12_mark_34 (by decide) ?_
        refine lv_ldc2 hx hb C.2.2.2.1 (C.2.2.2.2 _ ckX12_114) dX12_mark_35 ?_
        refine x_cz0 (rest := []) (x_runS C hE hP hS ykX12_in lkX12_92 (c_X12_in (OB_bind hf)) (by decide) rfl hl.1 (Nat.le_of_ble_eq_true rfl) dX12_mark_38) hS (fun r4 H locs hf hP hS => ?_)
        refine lv_if_ne (tgt := 47) hx hb dX12_mark_41 (by decide) (fun hc => ?_) (fun hc => ?_)
        · have hf := (OB_t hf (bI_t hc))
          refine lv_aload_n hx hb dX12_mark_47 rfl (lv_at hl 0 rfl) ?_
          refine gfX12_98 C hE hP dX12_mark_48 ?_
          refine lv_bipush (v := 40) hx hb dX12_mark_51 (by decide) ?_
          refine lv_icmp_ne (tgt := 59) hx hb dX12_mark_53 (by decide) (fun hc => ?_) (fun hc => ?_)
          · have hf := (OB_f hf hc)
            refine lv_aload_n hx hb dX12_mark_59 rfl (lv_at hl 0 rfl) ?_
            refine gfX12_13 C hE hP dX12_mark_60 ?_
            refine lv_aload_n hx hb dX12_mark_63 rfl (lv_at hl 0 rfl) ?_
            refine gfX12_98 C hE hP dX12_mark_64 ?_
            refine lv_iload_n hx hb dX12_mark_67 rfl (lv_at hl 1 rfl) ?_
            obtain ⟨g5, hf⟩ := OB_g hf
            refine x_iast C hE hP hS sh134 g5 dX12_mark_68 (fun H locs hP hS => ?_)
            refine lv_aload_n hx hb dX12_mark_69 rfl (lv_at hl 0 rfl) ?_
            refine gfX12_16 C hE hP dX12_mark_70 ?_
            refine lv_aload_n hx hb dX12_mark_73 rfl (lv_at hl 0 rfl) ?_
            refine gfX12_98 C hE hP dX12_mark_74 ?_
            refine lv_iload_n hx hb dX12_mark_77 rfl (lv_at hl 2 rfl) ?_
            obtain ⟨g6, hf⟩ := OB_g hf
            refine x_iast C hE hP hS sh135 g6 dX12_mark_78 (fun H locs hP hS => ?_)
            refine lv_aload_n hx hb dX12_mark_79 rfl (lv_at hl 0 rfl) ?_
            refine gfX12_19 C hE hP dX12_mark_80 ?_
            refine lv_aload_n hx hb dX12_mark_83 rfl (lv_at hl 0 rfl) ?_
            refine gfX12_98 C hE hP dX12_mark_84 ?_
            refine lv_iload_n hx hb dX12_mark_87 rfl (lv_at hl 3 rfl) ?_
            obtain ⟨g7, hf⟩ := OB_g hf
            refine x_iast C hE hP hS sh136 g7 dX12_mark_88 (fun H locs hP hS => ?_)
            refine lv_aload_n hx hb dX12_mark_89 rfl (lv_at hl 0 rfl) ?_
            refine lv_dup hx hb dX12_mark_90 rfl ?_
            refine gfX12_98 C hE hP dX12_mark_91 ?_
            refine lv_iconst (v := 1) hx hb dX12_mark_94 (by decide) ?_
            refine lv_iadd hx hb dX12_mark_95 ?_
            refine pfX12_98 C hE hP hS dX12_mark_96 (fun H locs hP hS => ?_)
            refine lv_aload_n hx hb dX12_mark_99 rfl (lv_at hl 0 rfl) ?_
            refine gfX12_98 C hE hP dX12_mark_100 ?_
            refine lv_iconst (v := 1) hx hb dX12_mark_103 (by decide) ?_
            refine lv_isub hx hb dX12_mark_104 ?_
            exact hret _ _ _ _ _ _ (OB_some hf) hP hS dX12_mark_105
          · have hf := (OB_t hf hc)
            refine lv_bipush (v := -104) hx hb dX12_mark_56 (by decide) ?_
            exact hret _ _ _ _ _ _ (OB_some hf) hP hS dX12_mark_58
        · have hf := (OB_f hf (bI_f hc))
          refine lv_bipush (v := -102) hx hb dX12_mark_44 (by decide) ?_
          exact hret _ _ _ _ _ _ (OB_some hf) hP hS dX12_mark_46
    · have hf := (OB_t hf hc)
      refine lv_bipush (v := -101) hx hb dX12_mark_17 (by decide) ?_
      exact hret _ _ _ _ _ _ (OB_some hf) hP hS dX12_mark_19
def rm_X12_isMark : Room := { frames := 1, cells := 0, slots := 0, locals := 25 }
set_option maxRecDepth 100000 in
set_option maxHeartbeats 8000000 in
theorem c_X12_isMark {l : Launch} {G : GG} {a1 : Int32} {M : Mem} {h : Int64}  {P9 : Bool → Prop} (hf : OB (f_X12_isMark a1 M) P9) : Met1 l yX12_isMark cX12_isMark 2 (some .boolean) rm_X12_isMark G [.ref (xa G 132), .int a1] M h (QZ0 G M h P9) := by
  unfold f_X12_isMark at hf
  refine xm_z0 (by decide) (Nat.le_of_ble_eq_true rfl) ?_
  intro p e s m args below meth c ls Q C hE hret hP hS hl
  have C : CallFix p m c cX12_isMark 2 s args TB RX12 := C
  have hx := C.1
  have hb := C.2.1
  have hl : lv_has ls 2 [(0, .ref (xa G 132)), (1, .int a1)] := hl
  refine lv_iload_n hx hb dX12_isMark_0 rfl (lv_at hl 1 rfl) ?_
  refine lv_i2l hx hb dX12_isMark_1 rfl ?_
  refine lv_lconst (v := 0) hx hb dX12_isMark_2 (by decide) ?_
  refine lv_aload_n hx hb dX12_isMark_3 rfl (lv_at hl 0 rfl) ?_
  refine gfX12_98 C hE hP dX12_isMark_4 ?_
  refine lv_iconst (v := 1) hx hb dX12_isMark_7 (by decide) ?_
  refine lv_isub hx hb dX12_isMark_8 ?_
  refine lv_i2l hx hb dX12_isMark_9 rfl ?_
  refine x_cz0 (rest := []) (x_runS C hE hP hS ykX12_in lkX12_92 (c_X12_in (OB_bind hf)) (by decide) rfl hl.1 (Nat.le_of_ble_eq_true rfl) dX12_isMark_10) hS (fun r1 H locs hf hP hS => ?_)
  exact hret _ _ _ _ _ (OB_some hf) hP hS dX12_isMark_13
def rm_X12_as : Room := { frames := 2, cells := 0, slots := 0, locals := 46 }
set_option maxRecDepth 100000 in
set_option maxHeartbeats 8000000 in
theorem c_X12_as {l : Launch} {G : GG} {a1 : Int32} {a2 : Int32} {M : Mem} {h : Int64}  {P9 : Int32 → Prop} (hf : OB (f_X12_as a1 a2 M) P9) : Met1 l yX12_as cX12_as 4 (some .int) rm_X12_as G [.ref (xa G 132), .int a1, .int a2] M h (QI0 G M h P9) := by
  unfold f_X12_as at hf
  refine xm_i0 (by decide) (Nat.le_of_ble_eq_true rfl) ?_
  intro p e s m args below meth c ls Q C hE hret hP hS hl
  have C : CallFix p m c cX12_as 4 s args TB RX12 := C
  have hx := C.1
  have hb := C.2.1
  have hl : lv_has ls 4 [(0, .ref (xa G 132)), (1, .int a1), (2, .int a2)] := hl
  refine lv_aload_n hx hb dX12_as_0 rfl (lv_at hl 0 rfl) ?_
  refine lv_iload_n hx hb dX12_as_1 rfl (lv_at hl 1 rfl) ?_
  refine x_cz0 (rest := []) (x_runV C hE hP hS ykX12_isMark lkX12_129 sh132 rfl (c_X12_isMark (OB_bind hf)) (by decide) rfl hl.1 (Nat.le_of_ble_eq_true rfl) dX12_as_2) hS (fun r1 H locs hf hP hS => ?_)
  refine lv_if_ne (tgt := 11) hx hb dX12_as_5 (by decide) (fun hc => ?_) (fun hc => ?_)
  · have hf := (OB_t hf (bI_t hc))
    refine lv_iload_n hx hb dX12_as_11 rfl (lv_at hl 2 rfl) ?_
    refine lv_i2l hx hb dX12_as_12 rfl ?_
    refine lv_lconst (v := 0) hx hb dX12_as_13 (by decide) ?_
    refine lv_ldc2 hx hb C.2.2.2.1 (C.2.2.2.2 _ ckX12_90) dX12_as_14 ?_
    refine x_cz0 (rest := []) (x_runS C hE hP hS ykX12_in lkX12_92 (c_X12_in (OB_bind hf)) (by decide) rfl hl.1 (Nat.le_of_ble_eq_true rfl) dX12_as_17) hS (fun r2 H locs hf hP hS => ?_)
    refine lv_if_ne (tgt := 26) hx hb dX12_as_20 (by decide) (fun hc => ?_) (fun hc => ?_)
    · have hf := (OB_t hf (bI_t hc))
      refine lv_iload_n hx hb dX12_as_26 rfl (lv_at hl 2 rfl) ?_
      refine xj (fun (x5 : Bool) => ∀ (H : Heap) (locs : List Loc) (ls : Array Slot), va_P G.1 vwCl (wl G M h) H → va_S (Aw G) s.heap H locs → lv_has ls 4 [(1, .int a1)] → W p l e rm_X12_as s m args below meth c H locs 0 0 Q (F0 m 60 ls [.int (bI x5)])) hf ?_ (fun hf => ?_)
      · rintro x5 hf H locs ls hP hS hl
        refine lv_istore_n (lv' := [(3, .int (bI x5)), (1, .int a1)]) hx hb dX12_as_60 rfl hl (by decide) rfl (fun ls hl => ?_)
        refine lv_iload_n hx hb dX12_as_61 rfl (lv_at hl 0 rfl) ?_
        refine xj (fun (x7 : Int32) => ∀ (H : Heap) (locs : List Loc) (ls : Array Slot), va_P G.1 vwCl (wl G M h) H → va_S (Aw G) s.heap H locs → lv_has ls 4 [] → W p l e rm_X12_as s m args below meth c H locs 0 0 Q (F0 m 70 ls [.int x7])) hf ?_ (fun hf => ?_)
        · rintro x7 hf H locs ls hP hS hl
          exact hret _ _ _ _ _ (OB_some hf) hP hS dX12_as_70
        · skip
          refine lv_if_eq (tgt := 69) hx hb dX12_as_62 (by decide) (fun hc => ?_) (fun hc => ?_)
          · have hf := (OB_f hf (bI_f hc))
            refine lv_iconst (v := -1) hx hb dX12_as_69 (by decide) ?_
            exact (OB_some hf) _ _ _ hP hS (lv_sub hl [] rfl)
          · have hf := (OB_t hf (bI_t hc))
            refine lv_iload_n hx hb dX12_as_65 rfl (lv_at hl 1 rfl) ?_
            refine lv_goto (tgt := 70) hx hb dX12_as_66 (by decide) ?_
            exact (OB_some hf) _ _ _ hP hS (lv_sub hl [] rfl)
      · skip
        refine lv_if_eq (tgt := 55) hx hb dX12_as_27 (by decide) (fun hc => ?_) (fun hc => ?_)
        · have hf := (OB_t hf hc)
          refine lv_iconst (v := 1) hx hb dX12_as_55 (by decide) ?_
          refine lv_goto (tgt := 60) hx hb dX12_as_56 (by decide) ?_
          refine W.eq (g2 := F0 m 60 ls [.int (bI true)]) rfl ?_
          exact (OB_some hf) _ _ _ hP hS (lv_sub hl [1] rfl)
        · have hf := (OB_f hf hc)
          refine lv_iload_n hx hb dX12_as_30 rfl (lv_at hl 2 rfl) ?_
          refine lv_aload_n hx hb dX12_as_31 rfl (lv_at hl 0 rfl) ?_
          refine gfX12_13 C hE hP dX12_as_32 ?_
          refine lv_iload_n hx hb dX12_as_35 rfl (lv_at hl 1 rfl) ?_
          obtain ⟨g6, hf⟩ := OB_g hf
          refine x_iald C hE hP sh134 g6 dX12_as_36 ?_
          refine lv_icmp_eq (tgt := 55) hx hb dX12_as_37 (by decide) (fun hc => ?_) (fun hc => ?_)
          · have hf := (OB_t hf hc)
            refine lv_iconst (v := 1) hx hb dX12_as_55 (by decide) ?_
            refine lv_goto (tgt := 60) hx hb dX12_as_56 (by decide) ?_
            refine W.eq (g2 := F0 m 60 ls [.int (bI true)]) rfl ?_
            exact (OB_some hf) _ _ _ hP hS (lv_sub hl [1] rfl)
          · have hf := (OB_f hf hc)
            refine lv_iload_n hx hb dX12_as_40 rfl (lv_at hl 2 rfl) ?_
            refine lv_iconst (v := 2) hx hb dX12_as_41 (by decide) ?_
            refine lv_icmp_ne (tgt := 59) hx hb dX12_as_42 (by decide) (fun hc => ?_) (fun hc => ?_)
            · have hf := (OB_f hf hc)
              refine lv_iconst (v := 0) hx hb dX12_as_59 (by decide) ?_
              refine W.eq (g2 := F0 m 60 ls [.int (bI false)]) rfl ?_
              exact (OB_some hf) _ _ _ hP hS (lv_sub hl [1] rfl)
            · have hf := (OB_t hf hc)
              refine lv_aload_n hx hb dX12_as_45 rfl (lv_at hl 0 rfl) ?_
              refine gfX12_13 C hE hP dX12_as_46 ?_
              refine lv_iload_n hx hb dX12_as_49 rfl (lv_at hl 1 rfl) ?_
              refine x_iald C hE hP sh134 g6 dX12_as_50 ?_
              refine lv_iconst (v := 5) hx hb dX12_as_51 (by decide) ?_
              refine lv_icmp_ne (tgt := 59) hx hb dX12_as_52 (by decide) (fun hc => ?_) (fun hc => ?_)
              · have hf := (OB_f hf hc)
                refine lv_iconst (v := 0) hx hb dX12_as_59 (by decide) ?_
                refine W.eq (g2 := F0 m 60 ls [.int (bI false)]) rfl ?_
                exact (OB_some hf) _ _ _ hP hS (lv_sub hl [1] rfl)
              · have hf := (OB_t hf hc)
                refine lv_iconst (v := 1) hx hb dX12_as_55 (by decide) ?_
                refine lv_goto (tgt := 60) hx hb dX12_as_56 (by decide) ?_
                refine W.eq (g2 := F0 m 60 ls [.int (bI true)]) rfl ?_
                exact (OB_some hf) _ _ _ hP hS (lv_sub hl [1] rfl)
    · have hf := (OB_f hf (bI_f hc))
      refine lv_bipush (v := -102) hx hb dX12_as_23 (by decide) ?_
      exact hret _ _ _ _ _ (OB_some hf) hP hS dX12_as_25
  · have hf := (OB_f hf (bI_f hc))
    refine lv_bipush (v := -101) hx hb dX12_as_8 (by decide) ?_
    exact hret _ _ _ _ _ (OB_some hf) hP hS dX12_as_10
def rm_X12_weight : Room := { frames := 0, cells := 0, slots := 0, locals := 0 }
set_option maxRecDepth 100000 in
set_option maxHeartbeats 8000000 in
theorem c_X12_weight {l : Launch} {G : GG} {a1 : Int32} {M : Mem} {h : Int64}  {P9 : Int32 → Prop} (hf : OB (f_X12_weight a1 M) P9) : Met1 l yX12_weight cX12_weight 2 (some .int) rm_X12_weight G [.ref (xa G 132), .int a1] M h (QI0 G M h P9) := by
  unfold f_X12_weight at hf
  refine xm_i0 (by decide) (Nat.le_of_ble_eq_true rfl) ?_
  intro p e s m args below meth c ls Q C hE hret hP hS hl
  have C : CallFix p m c cX12_weight 2 s args TB RX12 := C
  have hx := C.1
  have hb := C.2.1
  have hl : lv_has ls 2 [(0, .ref (xa G 132)), (1, .int a1)] := hl
  refine lv_aload_n hx hb dX12_weight_0 rfl (lv_at hl 0 rfl) ?_
  refine gfX12_13 C hE hP dX12_weight_1 ?_
  refine lv_iload_n hx hb dX12_weight_4 rfl (lv_at hl 1 rfl) ?_
  obtain ⟨g1, hf⟩ := OB_g hf
  refine x_iald C hE hP sh134 g1 dX12_weight_5 ?_
  by_cases hs6_0 : (M 134 (Int32.toNatClampNeg a1)) = 1
  · have hf := OB_t hf hs6_0
    refine lv_tableIn (off := 34) (tgt := 40) hx hb dX12_weight_6 (by rw [hs6_0]; decide) (by rw [hs6_0]; decide) (by rw [hs6_0]; rfl) (by decide) ?_
    refine lv_iconst (v := 3) hx hb dX12_weight_40 (by decide) ?_
    exact hret _ _ _ _ _ (OB_some hf) hP hS dX12_weight_41
  · have hf := OB_f hf hs6_0
    by_cases hs6_1 : (M 134 (Int32.toNatClampNeg a1)) = 2
    · have hf := OB_t hf hs6_1
      refine lv_tableIn (off := 36) (tgt := 42) hx hb dX12_weight_6 (by rw [hs6_1]; decide) (by rw [hs6_1]; decide) (by rw [hs6_1]; rfl) (by decide) ?_
      refine lv_iconst (v := 4) hx hb dX12_weight_42 (by decide) ?_
      exact hret _ _ _ _ _ (OB_some hf) hP hS dX12_weight_43
    · have hf := OB_f hf hs6_1
      by_cases hs6_2 : (M 134 (Int32.toNatClampNeg a1)) = 3
      · have hf := OB_t hf hs6_2
        refine lv_tableIn (off := 42) (tgt := 48) hx hb dX12_weight_6 (by rw [hs6_2]; decide) (by rw [hs6_2]; decide) (by rw [hs6_2]; rfl) (by decide) ?_
        refine lv_iconst (v := 1) hx hb dX12_weight_48 (by decide) ?_
        exact hret _ _ _ _ _ (OB_some hf) hP hS dX12_weight_49
      · have hf := OB_f hf hs6_2
        by_cases hs6_3 : (M 134 (Int32.toNatClampNeg a1)) = 4
        · have hf := OB_t hf hs6_3
          refine lv_tableIn (off := 38) (tgt := 44) hx hb dX12_weight_6 (by rw [hs6_3]; decide) (by rw [hs6_3]; decide) (by rw [hs6_3]; rfl) (by decide) ?_
          refine lv_iconst (v := 0) hx hb dX12_weight_44 (by decide) ?_
          exact hret _ _ _ _ _ (OB_some hf) hP hS dX12_weight_45
        · have hf := OB_f hf hs6_3
          by_cases hs6_4 : (M 134 (Int32.toNatClampNeg a1)) = 5
          · have hf := OB_t hf hs6_4
            refine lv_tableIn (off := 40) (tgt := 46) hx hb dX12_weight_6 (by rw [hs6_4]; decide) (by rw [hs6_4]; decide) (by rw [hs6_4]; rfl) (by decide) ?_
            refine lv_iconst (v := 2) hx hb dX12_weight_46 (by decide) ?_
            exact hret _ _ _ _ _ (OB_some hf) hP hS dX12_weight_47
          · have hf := OB_f hf hs6_4
            refine lv_tableOut (tgt := 48) hx hb dX12_weight_6 (by have n0 := lv_neT hs6_0 (by decide : (1 : Int32).toInt = 1); have n1 := lv_neT hs6_1 (by decide : (2 : Int32).toInt = 2); have n2 := lv_neT hs6_2 (by decide : (3 : Int32).toInt = 3); have n3 := lv_neT hs6_3 (by decide : (4 : Int32).toInt = 4); have n4 := lv_neT hs6_4 (by decide : (5 : Int32).toInt = 5); omega) (by decide) ?_
            refine lv_iconst (v := 1) hx hb dX12_weight_48 (by decide) ?_
            exact hret _ _ _ _ _ (OB_some hf) hP hS dX12_weight_49
def rm_X12_about : Room := { frames := 2, cells := 0, slots := 0, locals := 46 }
set_option maxRecDepth 100000 in
set_option maxHeartbeats 8000000 in
theorem c_X12_about {l : Launch} {G : GG} {a1 : Int32} {a2 : Int32} {M : Mem} {h : Int64}  {P9 : Int32 → Prop} (hf : OB (f_X12_about a1 a2 M) P9) : Met1 l yX12_about cX12_about 3 (some .int) rm_X12_about G [.ref (xa G 132), .int a1, .int a2] M h (QI0 G M h P9) := by
  unfold f_X12_about at hf
  refine xm_i0 (by decide) (Nat.le_of_ble_eq_true rfl) ?_
  intro p e s m args below meth c ls Q C hE hret hP hS hl
  have C : CallFix p m c cX12_about 3 s args TB RX12 := C
  have hx := C.1
  have hb := C.2.1
  have hl : lv_has ls 3 [(0, .ref (xa G 132)), (1, .int a1), (2, .int a2)] := hl
  refine lv_aload_n hx hb dX12_about_0 rfl (lv_at hl 0 rfl) ?_
  refine lv_iload_n hx hb dX12_about_1 rfl (lv_at hl 1 rfl) ?_
  refine x_cz0 (rest := []) (x_runV C hE hP hS ykX12_isMark lkX12_129 sh132 rfl (c_X12_isMark (OB_bind hf)) (by decide) rfl hl.1 (Nat.le_of_ble_eq_true rfl) dX12_about_2) hS (fun r1 H locs hf hP hS => ?_)
  refine lv_if_ne (tgt := 11) hx hb dX12_about_5 (by decide) (fun hc => ?_) (fun hc => ?_)
  · have hf := (OB_t hf (bI_t hc))
    refine lv_iload_n hx hb dX12_about_11 rfl (lv_at hl 2 rfl) ?_
    refine lv_i2l hx hb dX12_about_12 rfl ?_
    refine lv_lconst (v := 0) hx hb dX12_about_13 (by decide) ?_
    refine lv_ldc2 hx hb C.2.2.2.1 (C.2.2.2.2 _ ckX12_132) dX12_about_14 ?_
    refine x_cz0 (rest := []) (x_runS C hE hP hS ykX12_in lkX12_92 (c_X12_in (OB_bind hf)) (by decide) rfl hl.1 (Nat.le_of_ble_eq_true rfl) dX12_about_17) hS (fun r2 H locs hf hP hS => ?_)
    refine lv_if_ne (tgt := 26) hx hb dX12_about_20 (by decide) (fun hc => ?_) (fun hc => ?_)
    · have hf := (OB_t hf (bI_t hc))
      refine lv_iload_n hx hb dX12_about_26 rfl (lv_at hl 2 rfl) ?_
      refine xj (fun (x11 : Int32) => ∀ (H : Heap) (locs : List Loc) (ls : Array Slot), va_P G.1 vwCl (wl G M h) H → va_S (Aw G) s.heap H locs → lv_has ls 3 [] → W p l e rm_X12_about s m args below meth c H locs 0 0 Q (F0 m 72 ls [.int x11])) hf ?_ (fun hf => ?_)
      · rintro x11 hf H locs ls hP hS hl
        exact hret _ _ _ _ _ (OB_some hf) hP hS dX12_about_72
      · skip
        refine lv_if_ne (tgt := 39) hx hb dX12_about_27 (by decide) (fun hc => ?_) (fun hc => ?_)
        · have hf := (OB_f hf hc)
          refine lv_iload_n hx hb dX12_about_39 rfl (lv_at hl 2 rfl) ?_
          refine lv_iconst (v := 1) hx hb dX12_about_40 (by decide) ?_
          refine lv_icmp_ne (tgt := 53) hx hb dX12_about_41 (by decide) (fun hc => ?_) (fun hc => ?_)
          · have hf := (OB_f hf hc)
            refine lv_iload_n hx hb dX12_about_53 rfl (lv_at hl 2 rfl) ?_
            refine lv_iconst (v := 2) hx hb dX12_about_54 (by decide) ?_
            refine lv_icmp_ne (tgt := 67) hx hb dX12_about_55 (by decide) (fun hc => ?_) (fun hc => ?_)
            · have hf := (OB_f hf hc)
              refine lv_aload_n hx hb dX12_about_67 rfl (lv_at hl 0 rfl) ?_
              refine lv_iload_n hx hb dX12_about_68 rfl (lv_at hl 1 rfl) ?_
              refine x_ci0 (rest := []) (x_runV C hE hP hS ykX12_weight lkX12_134 sh132 rfl (c_X12_weight (OB_bind hf)) (by decide) rfl hl.1 (Nat.le_of_ble_eq_true rfl) dX12_about_69) hS (fun r12 H locs hf hP hS => ?_)
              exact (OB_some hf) _ _ _ hP hS (lv_sub hl [] rfl)
            · have hf := (OB_t hf hc)
              refine lv_aload_n hx hb dX12_about_58 rfl (lv_at hl 0 rfl) ?_
              refine gfX12_19 C hE hP dX12_about_59 ?_
              refine lv_iload_n hx hb dX12_about_62 rfl (lv_at hl 1 rfl) ?_
              obtain ⟨g13, hf⟩ := OB_g hf
              refine x_iald C hE hP sh136 g13 dX12_about_63 ?_
              refine lv_goto (tgt := 72) hx hb dX12_about_64 (by decide) ?_
              exact (OB_some hf) _ _ _ hP hS (lv_sub hl [] rfl)
          · have hf := (OB_t hf hc)
            refine lv_aload_n hx hb dX12_about_44 rfl (lv_at hl 0 rfl) ?_
            refine gfX12_16 C hE hP dX12_about_45 ?_
            refine lv_iload_n hx hb dX12_about_48 rfl (lv_at hl 1 rfl) ?_
            obtain ⟨g14, hf⟩ := OB_g hf
            refine x_iald C hE hP sh135 g14 dX12_about_49 ?_
            refine lv_goto (tgt := 72) hx hb dX12_about_50 (by decide) ?_
            exact (OB_some hf) _ _ _ hP hS (lv_sub hl [] rfl)
        · have hf := (OB_t hf hc)
          refine lv_aload_n hx hb dX12_about_30 rfl (lv_at hl 0 rfl) ?_
          refine gfX12_13 C hE hP dX12_about_31 ?_
          refine lv_iload_n hx hb dX12_about_34 rfl (lv_at hl 1 rfl) ?_
          obtain ⟨g15, hf⟩ := OB_g hf
          refine x_iald C hE hP sh134 g15 dX12_about_35 ?_
          refine lv_goto (tgt := 72) hx hb dX12_about_36 (by decide) ?_
          exact (OB_some hf) _ _ _ hP hS (lv_sub hl [] rfl)
    · have hf := (OB_f hf (bI_f hc))
      refine lv_bipush (v := -102) hx hb dX12_about_23 (by decide) ?_
      exact hret _ _ _ _ _ (OB_some hf) hP hS dX12_about_25
  · have hf := (OB_f hf (bI_f hc))
    refine lv_bipush (v := -101) hx hb dX12_about_8 (by decide) ?_
    exact hret _ _ _ _ _ (OB_some hf) hP hS dX12_about_10
def rm_X12_goes : Room := { frames := 1, cells := 0, slots := 0, locals := 21 }
set_option maxRecDepth 100000 in
set_option maxHeartbeats 8000000 in
theorem c_X12_goes {l : Launch} {G : GG} {a1 : Int32} {a2 : Int32} {M : Mem} {h : Int64}  {P9 : Bool → Prop} (hf : OB (f_X12_goes a1 a2 M) P9) : Met1 l yX12_goes cX12_goes 4 (some .boolean) rm_X12_goes G [.ref (xa G 132), .int a1, .int a2] M h (QZ0 G M h P9) := by
  unfold f_X12_goes at hf
  refine xm_z0 (by decide) (Nat.le_of_ble_eq_true rfl) ?_
  intro p e s m args below meth c ls Q C hE hret hP hS hl
  have C : CallFix p m c cX12_goes 4 s args TB RX12 := C
  have hx := C.1
  have hb := C.2.1
  have hl : lv_has ls 4 [(0, .ref (xa G 132)), (1, .int a1), (2, .int a2)] := hl
  refine lv_aload_n hx hb dX12_goes_0 rfl (lv_at hl 0 rfl) ?_
  refine gfX12_13 C hE hP dX12_goes_1 ?_
  refine lv_iload_n hx hb dX12_goes_4 rfl (lv_at hl 1 rfl) ?_
  obtain ⟨g1, hf⟩ := OB_g hf
  refine x_iald C hE hP sh134 g1 dX12_goes_5 ?_
  refine lv_istore_n (lv' := [(3, .int (M 134 (Int32.toNatClampNeg a1))), (0, .ref (xa G 132)), (1, .int a1), (2, .int a2)]) hx hb dX12_goes_6 rfl hl (by decide) rfl (fun ls hl => ?_)
  refine lv_iload_n hx hb dX12_goes_7 rfl (lv_at hl 0 rfl) ?_
  refine lv_aload_n hx hb dX12_goes_8 rfl (lv_at hl 1 rfl) ?_
  refine gfX12_13 C hE hP dX12_goes_9 ?_
  refine lv_iload_n hx hb dX12_goes_12 rfl (lv_at hl 3 rfl) ?_
  obtain ⟨g2, hf⟩ := OB_g hf
  refine x_iald C hE hP sh134 g2 dX12_goes_13 ?_
  refine lv_icmp_ne (tgt := 22) hx hb dX12_goes_14 (by decide) (fun hc => ?_) (fun hc => ?_)
  · have hf := (OB_f hf hc)
    refine lv_iconst (v := 0) hx hb dX12_goes_22 (by decide) ?_
    refine W.eq (g2 := F0 m 23 ls [.int (bI false)]) rfl ?_
    exact hret _ _ _ _ _ (OB_some hf) hP hS dX12_goes_23
  · have hf := (OB_t hf hc)
    refine lv_iload_n hx hb dX12_goes_17 rfl (lv_at hl 0 rfl) ?_
    refine lv_iconst (v := 4) hx hb dX12_goes_18 (by decide) ?_
    refine lv_icmp_ne (tgt := 24) hx hb dX12_goes_19 (by decide) (fun hc => ?_) (fun hc => ?_)
    · have hf := (OB_f hf hc)
      refine lv_iload_n hx hb dX12_goes_24 rfl (lv_at hl 0 rfl) ?_
      refine lv_iconst (v := 1) hx hb dX12_goes_25 (by decide) ?_
      refine xj (fun (x5 : Bool) => ∀ (H : Heap) (locs : List Loc) (ls : Array Slot), va_P G.1 vwCl (wl G M h) H → va_S (Aw G) s.heap H locs → lv_has ls 4 [] → W p l e rm_X12_goes s m args below meth c H locs 0 0 Q (F0 m 108 ls [.int (bI x5)])) hf ?_ (fun hf => ?_)
      · rintro x5 hf H locs ls hP hS hl
        exact hret _ _ _ _ _ (OB_some hf) hP hS dX12_goes_108
      · skip
        refine lv_icmp_ne (tgt := 56) hx hb dX12_goes_26 (by decide) (fun hc => ?_) (fun hc => ?_)
        · have hf := (OB_f hf hc)
          refine lv_iload_n hx hb dX12_goes_56 rfl (lv_at hl 0 rfl) ?_
          refine lv_iconst (v := 3) hx hb dX12_goes_57 (by decide) ?_
          refine lv_icmp_ne (tgt := 88) hx hb dX12_goes_58 (by decide) (fun hc => ?_) (fun hc => ?_)
          · have hf := (OB_f hf hc)
            refine lv_aload_n hx hb dX12_goes_88 rfl (lv_at hl 1 rfl) ?_
            refine gfX12_19 C hE hP dX12_goes_89 ?_
            refine lv_iload_n hx hb dX12_goes_92 rfl (lv_at hl 2 rfl) ?_
            refine x_iald C hE hP sh136 g1 dX12_goes_93 ?_
            refine lv_aload_n hx hb dX12_goes_94 rfl (lv_at hl 1 rfl) ?_
            refine gfX12_19 C hE hP dX12_goes_95 ?_
            refine lv_iload_n hx hb dX12_goes_98 rfl (lv_at hl 3 rfl) ?_
            refine x_iald C hE hP sh136 g2 dX12_goes_99 ?_
            refine lv_icmp_ne (tgt := 107) hx hb dX12_goes_100 (by decide) (fun hc => ?_) (fun hc => ?_)
            · have hf := (OB_f hf hc)
              refine lv_iconst (v := 0) hx hb dX12_goes_107 (by decide) ?_
              refine W.eq (g2 := F0 m 108 ls [.int (bI false)]) rfl ?_
              exact (OB_some hf) _ _ _ hP hS (lv_sub hl [] rfl)
            · have hf := (OB_t hf hc)
              refine lv_iconst (v := 1) hx hb dX12_goes_103 (by decide) ?_
              refine lv_goto (tgt := 108) hx hb dX12_goes_104 (by decide) ?_
              refine W.eq (g2 := F0 m 108 ls [.int (bI true)]) rfl ?_
              exact (OB_some hf) _ _ _ hP hS (lv_sub hl [] rfl)
          · have hf := (OB_t hf hc)
            refine lv_aload_n hx hb dX12_goes_61 rfl (lv_at hl 1 rfl) ?_
            refine gfX12_19 C hE hP dX12_goes_62 ?_
            refine lv_iload_n hx hb dX12_goes_65 rfl (lv_at hl 2 rfl) ?_
            refine x_iald C hE hP sh136 g1 dX12_goes_66 ?_
            refine lv_iconst (v := 4) hx hb dX12_goes_67 (by decide) ?_
            refine x_irem C dX12_goes_68 (by decide) ?_
            refine lv_aload_n hx hb dX12_goes_69 rfl (lv_at hl 1 rfl) ?_
            refine gfX12_19 C hE hP dX12_goes_70 ?_
            refine lv_iload_n hx hb dX12_goes_73 rfl (lv_at hl 3 rfl) ?_
            refine x_iald C hE hP sh136 g2 dX12_goes_74 ?_
            refine lv_iconst (v := 4) hx hb dX12_goes_75 (by decide) ?_
            refine x_irem C dX12_goes_76 (by decide) ?_
            refine lv_icmp_ne (tgt := 84) hx hb dX12_goes_77 (by decide) (fun hc => ?_) (fun hc => ?_)
            · have hf := (OB_f hf hc)
              refine lv_iconst (v := 0) hx hb dX12_goes_84 (by decide) ?_
              refine lv_goto (tgt := 108) hx hb dX12_goes_85 (by decide) ?_
              refine W.eq (g2 := F0 m 108 ls [.int (bI false)]) rfl ?_
              exact (OB_some hf) _ _ _ hP hS (lv_sub hl [] rfl)
            · have hf := (OB_t hf hc)
              refine lv_iconst (v := 1) hx hb dX12_goes_80 (by decide) ?_
              refine lv_goto (tgt := 108) hx hb dX12_goes_81 (by decide) ?_
              refine W.eq (g2 := F0 m 108 ls [.int (bI true)]) rfl ?_
              exact (OB_some hf) _ _ _ hP hS (lv_sub hl [] rfl)
        · have hf := (OB_t hf hc)
          refine lv_aload_n hx hb dX12_goes_29 rfl (lv_at hl 1 rfl) ?_
          refine gfX12_19 C hE hP dX12_goes_30 ?_
          refine lv_iload_n hx hb dX12_goes_33 rfl (lv_at hl 2 rfl) ?_
          refine x_iald C hE hP sh136 g1 dX12_goes_34 ?_
          refine lv_aload_n hx hb dX12_goes_35 rfl (lv_at hl 1 rfl) ?_
          refine gfX12_19 C hE hP dX12_goes_36 ?_
          refine lv_iload_n hx hb dX12_goes_39 rfl (lv_at hl 3 rfl) ?_
          refine x_iald C hE hP sh136 g2 dX12_goes_40 ?_
          refine x_ci0 (rest := []) (x_runS C hE hP hS ykX12_off lkX12_137 (c_X12_off (OB_bind hf)) (by decide) rfl hl.1 (Nat.le_of_ble_eq_true rfl) dX12_goes_41) hS (fun r6 H locs hf hP hS => ?_)
          refine lv_iconst (v := 1) hx hb dX12_goes_44 (by decide) ?_
          refine lv_icmp_gt (tgt := 52) hx hb dX12_goes_45 (by decide) (fun hc => ?_) (fun hc => ?_)
          · have hf := (OB_t hf hc)
            refine lv_iconst (v := 0) hx hb dX12_goes_52 (by decide) ?_
            refine lv_goto (tgt := 108) hx hb dX12_goes_53 (by decide) ?_
            refine W.eq (g2 := F0 m 108 ls [.int (bI false)]) rfl ?_
            exact (OB_some hf) _ _ _ hP hS (lv_sub hl [] rfl)
          · have hf := (OB_f hf hc)
            refine lv_iconst (v := 1) hx hb dX12_goes_48 (by decide) ?_
            refine lv_goto (tgt := 108) hx hb dX12_goes_49 (by decide) ?_
            refine W.eq (g2 := F0 m 108 ls [.int (bI true)]) rfl ?_
            exact (OB_some hf) _ _ _ hP hS (lv_sub hl [] rfl)
    · have hf := (OB_t hf hc)
      refine lv_iconst (v := 0) hx hb dX12_goes_22 (by decide) ?_
      refine W.eq (g2 := F0 m 23 ls [.int (bI false)]) rfl ?_
      exact hret _ _ _ _ _ (OB_some hf) hP hS dX12_goes_23
def rm_X12_goesOn : Room := { frames := 2, cells := 0, slots := 0, locals := 46 }
set_option maxRecDepth 100000 in
set_option maxHeartbeats 8000000 in
theorem c_X12_goesOn {l : Launch} {G : GG} {a1 : Int32} {a2 : Int32} {M : Mem} {h : Int64}  {P9 : Int32 → Prop} (hf : OB (f_X12_goesOn a1 a2 M) P9) : Met1 l yX12_goesOn cX12_goesOn 3 (some .int) rm_X12_goesOn G [.ref (xa G 132), .int a1, .int a2] M h (QI0 G M h P9) := by
  unfold f_X12_goesOn at hf
  refine xm_i0 (by decide) (Nat.le_of_ble_eq_true rfl) ?_
  intro p e s m args below meth c ls Q C hE hret hP hS hl
  have C : CallFix p m c cX12_goesOn 3 s args TB RX12 := C
  have hx := C.1
  have hb := C.2.1
  have hl : lv_has ls 3 [(0, .ref (xa G 132)), (1, .int a1), (2, .int a2)] := hl
  refine lv_aload_n hx hb dX12_goesOn_0 rfl (lv_at hl 0 rfl) ?_
  refine lv_iload_n hx hb dX12_goesOn_1 rfl (lv_at hl 1 rfl) ?_
  refine x_cz0 (rest := []) (x_runV C hE hP hS ykX12_isMark lkX12_129 sh132 rfl (c_X12_isMark (OB_bind hf)) (by decide) rfl hl.1 (Nat.le_of_ble_eq_true rfl) dX12_goesOn_2) hS (fun r1 H locs hf hP hS => ?_)
  refine lv_if_eq (tgt := 16) hx hb dX12_goesOn_5 (by decide) (fun hc => ?_) (fun hc => ?_)
  · have hf := (OB_f hf (bI_f hc))
    refine lv_bipush (v := -101) hx hb dX12_goesOn_16 (by decide) ?_
    exact hret _ _ _ _ _ (OB_some hf) hP hS dX12_goesOn_18
  · have hf := (OB_t hf (bI_t hc))
    refine lv_aload_n hx hb dX12_goesOn_8 rfl (lv_at hl 0 rfl) ?_
    refine lv_iload_n hx hb dX12_goesOn_9 rfl (lv_at hl 2 rfl) ?_
    refine x_cz0 (rest := []) (x_runV C hE hP hS ykX12_isMark lkX12_129 sh132 rfl (c_X12_isMark (OB_bind hf)) (by decide) rfl hl.1 (Nat.le_of_ble_eq_true rfl) dX12_goesOn_10) hS (fun r2 H locs hf hP hS => ?_)
    refine lv_if_ne (tgt := 19) hx hb dX12_goesOn_13 (by decide) (fun hc => ?_) (fun hc => ?_)
    · have hf := (OB_t hf (bI_t hc))
      refine lv_aload_n hx hb dX12_goesOn_19 rfl (lv_at hl 0 rfl) ?_
      refine lv_iload_n hx hb dX12_goesOn_20 rfl (lv_at hl 1 rfl) ?_
      refine lv_iload_n hx hb dX12_goesOn_21 rfl (lv_at hl 2 rfl) ?_
      refine x_cz0 (rest := []) (x_runV C hE hP hS ykX12_goes lkX12_141 sh132 rfl (c_X12_goes (OB_bind hf)) (by decide) rfl hl.1 (Nat.le_of_ble_eq_true rfl) dX12_goesOn_22) hS (fun r3 H locs hf hP hS => ?_)
      refine xj (fun (x4 : Bool) => ∀ (H : Heap) (locs : List Loc) (ls : Array Slot), va_P G.1 vwCl (wl G M h) H → va_S (Aw G) s.heap H locs → lv_has ls 3 [] → W p l e rm_X12_goesOn s m args below meth c H locs 0 0 Q (F0 m 33 ls [.int (bI x4)])) hf ?_ (fun hf => ?_)
      · rintro x4 hf H locs ls hP hS hl
        exact hret _ _ _ _ _ (OB_some hf) hP hS dX12_goesOn_33
      · skip
        refine lv_if_eq (tgt := 32) hx hb dX12_goesOn_25 (by decide) (fun hc => ?_) (fun hc => ?_)
        · have hf := (OB_f hf (bI_f hc))
          refine lv_iconst (v := 0) hx hb dX12_goesOn_32 (by decide) ?_
          refine W.eq (g2 := F0 m 33 ls [.int (bI false)]) rfl ?_
          exact (OB_some hf) _ _ _ hP hS (lv_sub hl [] rfl)
        · have hf := (OB_t hf (bI_t hc))
          refine lv_iconst (v := 1) hx hb dX12_goesOn_28 (by decide) ?_
          refine lv_goto (tgt := 33) hx hb dX12_goesOn_29 (by decide) ?_
          refine W.eq (g2 := F0 m 33 ls [.int (bI true)]) rfl ?_
          exact (OB_some hf) _ _ _ hP hS (lv_sub hl [] rfl)
    · have hf := (OB_f hf (bI_f hc))
      refine lv_bipush (v := -101) hx hb dX12_goesOn_16 (by decide) ?_
      exact hret _ _ _ _ _ (OB_some hf) hP hS dX12_goesOn_18
def rm_X12_drop : Room := { frames := 0, cells := 0, slots := 0, locals := 0 }
set_option maxRecDepth 100000 in
set_option maxHeartbeats 8000000 in
theorem c_X12_drop {l : Launch} {G : GG}  {M : Mem} {h : Int64}  {P9 : (Int32 × Mem) → Prop} (hf : OB (f_X12_drop M) P9) : Met1 l yX12_drop cX12_drop 1 (some .int) rm_X12_drop G [.ref (xa G 132)] M h (QI1 G h P9) := by
  unfold f_X12_drop at hf
  refine xm_i1 (by decide) (Nat.le_of_ble_eq_true rfl) ?_
  intro p e s m args below meth c ls Q C hE hret hP hS hl
  have C : CallFix p m c cX12_drop 1 s args TB RX12 := C
  have hx := C.1
  have hb := C.2.1
  have hl : lv_has ls 1 [(0, .ref (xa G 132))] := hl
  refine lv_aload_n hx hb dX12_drop_0 rfl (lv_at hl 0 rfl) ?_
  refine gfX12_98 C hE hP dX12_drop_1 ?_
  refine lv_if_ne (tgt := 10) hx hb dX12_drop_4 (by decide) (fun hc => ?_) (fun hc => ?_)
  · have hf := (OB_f hf hc)
    refine lv_aload_n hx hb dX12_drop_10 rfl (lv_at hl 0 rfl) ?_
    refine lv_dup hx hb dX12_drop_11 rfl ?_
    refine gfX12_98 C hE hP dX12_drop_12 ?_
    refine lv_iconst (v := 1) hx hb dX12_drop_15 (by decide) ?_
    refine lv_isub hx hb dX12_drop_16 ?_
    refine pfX12_98 C hE hP hS dX12_drop_17 (fun H locs hP hS => ?_)
    refine lv_aload_n hx hb dX12_drop_20 rfl (lv_at hl 0 rfl) ?_
    refine gfX12_98 C hE hP dX12_drop_21 ?_
    exact hret _ _ _ _ _ _ (OB_some hf) hP hS dX12_drop_24
  · have hf := (OB_t hf hc)
    refine lv_bipush (v := -103) hx hb dX12_drop_7 (by decide) ?_
    exact hret _ _ _ _ _ _ (OB_some hf) hP hS dX12_drop_9
def rm_X12_lay : Room := { frames := 1, cells := 0, slots := 0, locals := 25 }
set_option maxRecDepth 100000 in
set_option maxHeartbeats 8000000 in
theorem c_X12_lay {l : Launch} {G : GG} {a1 : Int32} {a2 : Int32} {a3 : Int32} {a4 : Int32} {M : Mem} {h : Int64}  {P9 : (Bool × Mem) → Prop} (hf : OB (f_X12_lay a1 a2 a3 a4 M) P9) : Met1 l yX12_lay cX12_lay 8 (some .boolean) rm_X12_lay G [.ref (xa G 132), .int a1, .int a2, .int a3, .int a4] M h (QZ1 G h P9) := by
  unfold f_X12_lay at hf
  refine xm_z1 (by decide) (Nat.le_of_ble_eq_true rfl) ?_
  intro p e s m args below meth c ls Q C hE hret hP hS hl
  have C : CallFix p m c cX12_lay 8 s args TB RX12 := C
  have hx := C.1
  have hb := C.2.1
  have hl : lv_has ls 8 [(0, .ref (xa G 132)), (1, .int a1), (2, .int a2), (3, .int a3), (4, .int a4)] := hl
  refine lv_iconst (v := 1) hx hb dX12_lay_0 (by decide) ?_
  refine lv_istore (lv' := [(5, .int 1), (0, .ref (xa G 132)), (1, .int a1), (2, .int a2), (3, .int a3), (4, .int a4)]) hx hb dX12_lay_1 hl (by decide) rfl (fun ls hl => ?_)
  refine lv_iconst (v := 0) hx hb dX12_lay_3 (by decide) ?_
  refine lv_istore (lv' := [(6, .int 0), (5, .int 1), (0, .ref (xa G 132)), (1, .int a1), (2, .int a2), (3, .int a3), (4, .int a4)]) hx hb dX12_lay_4 hl (by decide) rfl (fun ls hl => ?_)
  refine xj (fun (M11 : Mem) => ∀ (H : Heap) (locs : List Loc) (ls : Array Slot), va_P G.1 vwCl (wl G M11 h) H → va_S (Aw G) s.heap H locs → lv_has ls 8 [(0, .ref (xa G 132)), (2, .int a2), (3, .int a3), (4, .int a4), (5, .int 1)] → W p l e rm_X12_lay s m args below meth c H locs 0 0 Q (F0 m 43 ls [])) hf ?_ (fun hf => ?_)
  · rintro M11 hf H locs ls hP hS hl
    refine lv_iconst (v := 0) hx hb dX12_lay_43 (by decide) ?_
    refine lv_istore (lv' := [(6, .int 0), (0, .ref (xa G 132)), (2, .int a2), (3, .int a3), (4, .int a4), (5, .int 1)]) hx hb dX12_lay_44 hl (by decide) rfl (fun ls hl => ?_)
    refine xj (fun (zz : (Bool × Mem)) => match zz with | (x65, M66) => ∀ (H : Heap) (locs : List Loc) (ls : Array Slot), va_P G.1 vwCl (wl G M66 h) H → va_S (Aw G) s.heap H locs → lv_has ls 8 [(5, .int (bI x65))] → W p l e rm_X12_lay s m args below meth c H locs 0 0 Q (F0 m 144 ls [])) hf ?_ (fun hf => ?_)
    · rintro ⟨x65, M66⟩ hf H locs ls hP hS hl
      refine lv_iload hx hb dX12_lay_144 (lv_at hl 0 rfl) ?_
      exact hret _ _ _ _ _ _ (OB_some hf) hP hS dX12_lay_146
    · refine (it_W (fun (zz : (Bool × Int32 × Mem)) => match zz with | (x62, x63, M64) => ∀ (H : Heap) (locs : List Loc) (ls : Array Slot), va_P G.1 vwCl (wl G M64 h) H → va_S (Aw G) s.heap H locs → lv_has ls 8 [(0, .ref (xa G 132)), (2, .int a2), (3, .int a3), (4, .int a4), (5, .int (bI x62)), (6, .int x63)] → W p l e rm_X12_lay s m args below meth c H locs 0 0 Q (F0 m 46 ls [])) hf ?_) _ _ _ hP hS (lv_sub hl [1, 2, 3, 4, 5, 0] rfl)
      rintro ⟨x62, x63, M64⟩ hf H locs ls hP hS hl
      unfold f_X12_lay_b46 at hf
      refine lv_iload hx hb dX12_lay_46 (lv_at hl 5 rfl) ?_
      refine lv_sipush (v := 128) hx hb dX12_lay_48 (by decide) ?_
      refine lv_icmp_ge (tgt := 144) hx hb dX12_lay_51 (by decide) (fun hc => ?_) (fun hc => ?_)
      · have hf := (OB_t hf hc)
        exact (it_e hf) _ _ _ hP hS (lv_sub hl [4] rfl)
      · have hf := (OB_f hf hc)
        refine lv_aload_n hx hb dX12_lay_54 rfl (lv_at hl 0 rfl) ?_
        refine gfX12_7 C hE hP dX12_lay_55 ?_
        refine lv_iload hx hb dX12_lay_58 (lv_at hl 5 rfl) ?_
        obtain ⟨g67, hf⟩ := OB_g hf
        refine x_iald C hE hP sh133 g67 dX12_lay_60 ?_
        refine lv_iload_n hx hb dX12_lay_61 rfl (lv_at hl 1 rfl) ?_
        refine xj (fun (zz : (Bool × Mem)) => match zz with | (x80, M81) => ∀ (H : Heap) (locs : List Loc) (ls : Array Slot), va_P G.1 vwCl (wl G M81 h) H → va_S (Aw G) s.heap H locs → lv_has ls 8 [(0, .ref (xa G 132)), (2, .int a2), (3, .int a3), (4, .int a4), (5, .int (bI x80)), (6, .int x63)] → W p l e rm_X12_lay s m args below meth c H locs 0 0 Q (F0 m 138 ls [])) hf ?_ (fun hf => ?_)
        · rintro ⟨x80, M81⟩ hf H locs ls hP hS hl
          refine lv_iinc (v := (x63 + 1)) (lv' := [(6, .int (x63 + 1)), (0, .ref (xa G 132)), (2, .int a2), (3, .int a3), (4, .int a4), (5, .int (bI x80))]) hx hb dX12_lay_138 hl (k := 5) rfl rfl (by decide) rfl (fun ls hl => ?_)
          refine lv_goto (tgt := 46) hx hb dX12_lay_141 (by decide) ?_
          exact (it_c hf) _ _ _ hP hS (lv_sub hl [1, 2, 3, 4, 5, 0] rfl)
        · skip
          refine lv_icmp_ne (tgt := 138) hx hb dX12_lay_62 (by decide) (fun hc => ?_) (fun hc => ?_)
          · have hf := (OB_f hf hc)
            exact (OB_some hf) _ _ _ hP hS (lv_sub hl [0, 1, 2, 3, 4, 5] rfl)
          · have hf := (OB_t hf hc)
            refine lv_iload hx hb dX12_lay_65 (lv_at hl 5 rfl) ?_
            refine lv_bipush (v := 16) hx hb dX12_lay_67 (by decide) ?_
            refine lv_idiv hx hb dX12_lay_69 (by decide) ?_
            refine lv_iload_n hx hb dX12_lay_70 rfl (lv_at hl 2 rfl) ?_
            refine lv_iadd hx hb dX12_lay_71 ?_
            refine lv_istore (lv' := [(7, .int ((x63 / 16) + a3)), (0, .ref (xa G 132)), (2, .int a2), (3, .int a3), (4, .int a4), (5, .int (bI x62)), (6, .int x63)]) hx hb dX12_lay_72 hl (by decide) rfl (fun ls hl => ?_)
            refine lv_iload hx hb dX12_lay_74 (lv_at hl 5 rfl) ?_
            refine xj (fun (x84 : Bool) => ∀ (H : Heap) (locs : List Loc) (ls : Array Slot), va_P G.1 vwCl (wl G M64 h) H → va_S (Aw G) s.heap H locs → lv_has ls 8 [(0, .ref (xa G 132)), (2, .int a2), (3, .int a3), (4, .int a4), (6, .int x63), (7, .int ((x63 / 16) + a3))] → W p l e rm_X12_lay s m args below meth c H locs 0 0 Q (F0 m 97 ls [.int (bI x84)])) hf ?_ (fun hf => ?_)
            · rintro x84 hf H locs ls hP hS hl
              refine lv_istore (lv' := [(5, .int (bI x84)), (0, .ref (xa G 132)), (2, .int a2), (3, .int a3), (4, .int a4), (6, .int x63), (7, .int ((x63 / 16) + a3))]) hx hb dX12_lay_97 hl (by decide) rfl (fun ls hl => ?_)
              refine lv_iload hx hb dX12_lay_99 (lv_at hl 6 rfl) ?_
              refine lv_i2l hx hb dX12_lay_101 rfl ?_
              refine lv_lconst (v := 0) hx hb dX12_lay_102 (by decide) ?_
              refine lv_ldc2 hx hb C.2.2.2.1 (C.2.2.2.2 _ ckX12_112) dX12_lay_103 ?_
              refine x_cz0 (rest := []) (x_runS C hE hP hS ykX12_in lkX12_92 (c_X12_in (OB_bind hf)) (by decide) rfl hl.1 (Nat.le_of_ble_eq_true rfl) dX12_lay_106) hS (fun r86 H locs hf hP hS => ?_)
              refine lv_if_eq (tgt := 138) hx hb dX12_lay_109 (by decide) (fun hc => ?_) (fun hc => ?_)
              · have hf := (OB_f hf (bI_f hc))
                exact (OB_some hf) _ _ _ hP hS (lv_sub hl [1, 2, 3, 4, 0, 5] rfl)
              · have hf := (OB_t hf (bI_t hc))
                refine lv_aload_n hx hb dX12_lay_112 rfl (lv_at hl 1 rfl) ?_
                refine gfX12_22 C hE hP dX12_lay_113 ?_
                refine lv_bipush (v := 16) hx hb dX12_lay_116 (by decide) ?_
                refine lv_iload hx hb dX12_lay_118 (lv_at hl 6 rfl) ?_
                refine lv_imul hx hb dX12_lay_120 ?_
                refine lv_iload hx hb dX12_lay_121 (lv_at hl 5 rfl) ?_
                refine lv_bipush (v := 16) hx hb dX12_lay_123 (by decide) ?_
                refine x_irem C dX12_lay_125 (by decide) ?_
                refine lv_iload hx hb dX12_lay_126 (lv_at hl 4 rfl) ?_
                refine lv_iadd hx hb dX12_lay_128 ?_
                refine lv_bipush (v := 16) hx hb dX12_lay_129 (by decide) ?_
                refine x_irem C dX12_lay_131 (by decide) ?_
                refine lv_iadd hx hb dX12_lay_132 ?_
                refine lv_dup2_11 hx hb dX12_lay_133 rfl rfl ?_
                obtain ⟨g87, hf⟩ := OB_g hf
                refine x_iald C hE hP sh137 g87 dX12_lay_134 ?_
                refine lv_iconst (v := 2) hx hb dX12_lay_135 (by decide) ?_
                refine lv_ior hx hb dX12_lay_136 ?_
                refine x_iast C hE hP hS sh137 g87 dX12_lay_137 (fun H locs hP hS => ?_)
                exact (OB_some hf) _ _ _ hP hS (lv_sub hl [1, 2, 3, 4, 0, 5] rfl)
            · skip
              refine lv_if_eq (tgt := 96) hx hb dX12_lay_76 (by decide) (fun hc => ?_) (fun hc => ?_)
              · have hf := (OB_f hf (bI_f hc))
                refine lv_iconst (v := 0) hx hb dX12_lay_96 (by decide) ?_
                refine W.eq (g2 := F0 m 97 ls [.int (bI false)]) rfl ?_
                exact (OB_some hf) _ _ _ hP hS (lv_sub hl [1, 2, 3, 4, 6, 0] rfl)
              · have hf := (OB_t hf (bI_t hc))
                refine lv_iload hx hb dX12_lay_79 (lv_at hl 0 rfl) ?_
                refine lv_i2l hx hb dX12_lay_81 rfl ?_
                refine lv_lconst (v := 0) hx hb dX12_lay_82 (by decide) ?_
                refine lv_ldc2 hx hb C.2.2.2.1 (C.2.2.2.2 _ ckX12_112) dX12_lay_83 ?_
                refine x_cz0 (rest := []) (x_runS C hE hP hS ykX12_in lkX12_92 (c_X12_in (OB_bind hf)) (by decide) rfl hl.1 (Nat.le_of_ble_eq_true rfl) dX12_lay_86) hS (fun r85 H locs hf hP hS => ?_)
                refine lv_if_eq (tgt := 96) hx hb dX12_lay_89 (by decide) (fun hc => ?_) (fun hc => ?_)
                · have hf := (OB_f hf (bI_f hc))
                  refine lv_iconst (v := 0) hx hb dX12_lay_96 (by decide) ?_
                  refine W.eq (g2 := F0 m 97 ls [.int (bI false)]) rfl ?_
                  exact (OB_some hf) _ _ _ hP hS (lv_sub hl [1, 2, 3, 4, 6, 0] rfl)
                · have hf := (OB_t hf (bI_t hc))
                  refine lv_iconst (v := 1) hx hb dX12_lay_92 (by decide) ?_
                  refine lv_goto (tgt := 97) hx hb dX12_lay_93 (by decide) ?_
                  refine W.eq (g2 := F0 m 97 ls [.int (bI true)]) rfl ?_
                  exact (OB_some hf) _ _ _ hP hS (lv_sub hl [1, 2, 3, 4, 6, 0] rfl)
  · refine (it_W (fun (zz : (Int32 × Mem)) => match zz with | (x9, M10) => ∀ (H : Heap) (locs : List Loc) (ls : Array Slot), va_P G.1 vwCl (wl G M10 h) H → va_S (Aw G) s.heap H locs → lv_has ls 8 [(0, .ref (xa G 132)), (1, .int a1), (2, .int a2), (3, .int a3), (4, .int a4), (5, .int 1), (6, .int x9)] → W p l e rm_X12_lay s m args below meth c H locs 0 0 Q (F0 m 6 ls [])) hf ?_) _ _ _ hP hS (lv_sub hl [2, 3, 4, 5, 6, 1, 0] rfl)
    rintro ⟨x9, M10⟩ hf H locs ls hP hS hl
    unfold f_X12_lay_b6 at hf
    refine lv_iload hx hb dX12_lay_6 (lv_at hl 6 rfl) ?_
    refine lv_sipush (v := 128) hx hb dX12_lay_8 (by decide) ?_
    refine lv_icmp_ge (tgt := 43) hx hb dX12_lay_11 (by decide) (fun hc => ?_) (fun hc => ?_)
    · have hf := (OB_t hf hc)
      exact (it_e hf) _ _ _ hP hS (lv_sub hl [0, 2, 3, 4, 5] rfl)
    · have hf := (OB_f hf hc)
      refine lv_aload_n hx hb dX12_lay_14 rfl (lv_at hl 0 rfl) ?_
      refine gfX12_22 C hE hP dX12_lay_15 ?_
      refine lv_iload hx hb dX12_lay_18 (lv_at hl 6 rfl) ?_
      refine lv_aload_n hx hb dX12_lay_20 rfl (lv_at hl 0 rfl) ?_
      refine gfX12_7 C hE hP dX12_lay_21 ?_
      refine lv_iload hx hb dX12_lay_24 (lv_at hl 6 rfl) ?_
      obtain ⟨g12, hf⟩ := OB_g hf
      refine x_iald C hE hP sh133 g12 dX12_lay_26 ?_
      refine lv_iload_n hx hb dX12_lay_27 rfl (lv_at hl 1 rfl) ?_
      refine xj (fun (x13 : Bool) => ∀ (H : Heap) (locs : List Loc) (ls : Array Slot), va_P G.1 vwCl (wl G M10 h) H → va_S (Aw G) s.heap H locs → lv_has ls 8 [(0, .ref (xa G 132)), (1, .int a1), (2, .int a2), (3, .int a3), (4, .int a4), (5, .int 1), (6, .int x9)] → W p l e rm_X12_lay s m args below meth c H locs 0 0 Q (F0 m 36 ls [.int (bI x13), .int x9, .ref (xa G 137)])) hf ?_ (fun hf => ?_)
      · rintro x13 hf H locs ls hP hS hl
        refine x_iast C hE hP hS sh137 g12 dX12_lay_36 (fun H locs hP hS => ?_)
        refine lv_iinc (v := (x9 + 1)) (lv' := [(6, .int (x9 + 1)), (0, .ref (xa G 132)), (1, .int a1), (2, .int a2), (3, .int a3), (4, .int a4), (5, .int 1)]) hx hb dX12_lay_37 hl (k := 6) rfl rfl (by decide) rfl (fun ls hl => ?_)
        refine lv_goto (tgt := 6) hx hb dX12_lay_40 (by decide) ?_
        exact (it_c hf) _ _ _ hP hS (lv_sub hl [1, 2, 3, 4, 5, 6, 0] rfl)
      · skip
        refine lv_icmp_ne (tgt := 35) hx hb dX12_lay_28 (by decide) (fun hc => ?_) (fun hc => ?_)
        · have hf := (OB_f hf hc)
          refine lv_iconst (v := 0) hx hb dX12_lay_35 (by decide) ?_
          refine W.eq (g2 := F0 m 36 ls [.int (bI false), .int x9, .ref (xa G 137)]) rfl ?_
          exact (OB_some hf) _ _ _ hP hS (lv_sub hl [0, 1, 2, 3, 4, 5, 6] rfl)
        · have hf := (OB_t hf hc)
          refine lv_iconst (v := 1) hx hb dX12_lay_31 (by decide) ?_
          refine lv_goto (tgt := 36) hx hb dX12_lay_32 (by decide) ?_
          refine W.eq (g2 := F0 m 36 ls [.int (bI true), .int x9, .ref (xa G 137)]) rfl ?_
          exact (OB_some hf) _ _ _ hP hS (lv_sub hl [0, 1, 2, 3, 4, 5, 6] rfl)
