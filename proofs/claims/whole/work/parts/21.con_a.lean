def rm_X0_size : Room := { frames := 0, cells := 0, slots := 0, locals := 0 }
set_option maxRecDepth 100000 in
set_option maxHeartbeats 8000000 in
theorem c_X0_size {l : Launch} {G : GG}  {M : Mem} {h : Int64}  {P9 : Int32 → Prop} (hf : OB (f_X0_size M) P9) : Met1 l yX0_size cX0_size 1 (some .int) rm_X0_size G [.ref (xa G 114)] M h (QI0 G M h P9) := by
  unfold f_X0_size at hf
  refine xm_i0 (by decide) (Nat.le_of_ble_eq_true rfl) ?_
  intro p e s m args below meth c ls Q C hE hret hP hS hl
  have C : CallFix p m c cX0_size 1 s args TB RX0 := C
  have hx := C.1
  have hb := C.2.1
  have hl : lv_has ls 1 [(0, .ref (xa G 114))] := hl
  refine lv_aload_n hx hb dX0_size_0 rfl (lv_at hl 0 rfl) ?_
  refine gfX0_16 C hE hP dX0_size_1 ?_
  exact hret _ _ _ _ _ (OB_some hf) hP hS dX0_size_4
def rm_X0_isFull : Room := { frames := 0, cells := 0, slots := 0, locals := 0 }
set_option maxRecDepth 100000 in
set_option maxHeartbeats 8000000 in
theorem c_X0_isFull {l : Launch} {G : GG}  {M : Mem} {h : Int64}  {P9 : Bool → Prop} (hf : OB (f_X0_isFull M) P9) : Met1 l yX0_isFull cX0_isFull 1 (some .boolean) rm_X0_isFull G [.ref (xa G 114)] M h (QZ0 G M h P9) := by
  unfold f_X0_isFull at hf
  refine xm_z0 (by decide) (Nat.le_of_ble_eq_true rfl) ?_
  intro p e s m args below meth c ls Q C hE hret hP hS hl
  have C : CallFix p m c cX0_isFull 1 s args TB RX0 := C
  have hx := C.1
  have hb := C.2.1
  have hl : lv_has ls 1 [(0, .ref (xa G 114))] := hl
  refine lv_aload_n hx hb dX0_isFull_0 rfl (lv_at hl 0 rfl) ?_
  refine gfX0_16 C hE hP dX0_isFull_1 ?_
  refine lv_bipush (v := 8) hx hb dX0_isFull_4 (by decide) ?_
  refine xj (fun (x1 : Bool) => ∀ (H : Heap) (locs : List Loc) (ls : Array Slot), va_P G.1 vwCl (wl G M h) H → va_S (Aw G) s.heap H locs → lv_has ls 1 [] → W p l e rm_X0_isFull s m args below meth c H locs 0 0 Q (F0 m 14 ls [.int (bI x1)])) hf ?_ (fun hf => ?_)
  · rintro x1 hf H locs ls hP hS hl
    exact hret _ _ _ _ _ (OB_some hf) hP hS dX0_isFull_14
  · skip
    refine lv_icmp_lt (tgt := 13) hx hb dX0_isFull_6 (by decide) (fun hc => ?_) (fun hc => ?_)
    · have hf := (OB_t hf hc)
      refine lv_iconst (v := 0) hx hb dX0_isFull_13 (by decide) ?_
      refine W.eq (g2 := F0 m 14 ls [.int (bI false)]) rfl ?_
      exact (OB_some hf) _ _ _ hP hS (lv_sub hl [] rfl)
    · have hf := (OB_f hf hc)
      refine lv_iconst (v := 1) hx hb dX0_isFull_9 (by decide) ?_
      refine lv_goto (tgt := 14) hx hb dX0_isFull_10 (by decide) ?_
      refine W.eq (g2 := F0 m 14 ls [.int (bI true)]) rfl ?_
      exact (OB_some hf) _ _ _ hP hS (lv_sub hl [] rfl)
def rm_X0_add : Room := { frames := 0, cells := 0, slots := 0, locals := 0 }
set_option maxRecDepth 100000 in
set_option maxHeartbeats 8000000 in
theorem c_X0_add {l : Launch} {G : GG} {a1 : Int32} {a2 : Int32} {M : Mem} {h : Int64}  {P9 : (Int32 × Mem) → Prop} (hf : OB (f_X0_add a1 a2 M) P9) : Met1 l yX0_add cX0_add 3 (some .int) rm_X0_add G [.ref (xa G 114), .int a1, .int a2] M h (QI1 G h P9) := by
  unfold f_X0_add at hf
  refine xm_i1 (by decide) (Nat.le_of_ble_eq_true rfl) ?_
  intro p e s m args below meth c ls Q C hE hret hP hS hl
  have C : CallFix p m c cX0_add 3 s args TB RX0 := C
  have hx := C.1
  have hb := C.2.1
  have hl : lv_has ls 3 [(0, .ref (xa G 114)), (1, .int a1), (2, .int a2)] := hl
  refine lv_aload_n hx hb dX0_add_0 rfl (lv_at hl 0 rfl) ?_
  refine gfX0_9 C hE hP dX0_add_1 ?_
  refine lv_aload_n hx hb dX0_add_4 rfl (lv_at hl 0 rfl) ?_
  refine gfX0_16 C hE hP dX0_add_5 ?_
  refine lv_iload_n hx hb dX0_add_8 rfl (lv_at hl 1 rfl) ?_
  obtain ⟨g1, hf⟩ := OB_g hf
  refine x_iast C hE hP hS sh115 g1 dX0_add_9 (fun H locs hP hS => ?_)
  refine lv_aload_n hx hb dX0_add_10 rfl (lv_at hl 0 rfl) ?_
  refine gfX0_13 C hE hP dX0_add_11 ?_
  refine lv_aload_n hx hb dX0_add_14 rfl (lv_at hl 0 rfl) ?_
  refine gfX0_16 C hE hP dX0_add_15 ?_
  refine lv_iload_n hx hb dX0_add_18 rfl (lv_at hl 2 rfl) ?_
  obtain ⟨g2, hf⟩ := OB_g hf
  refine x_iast C hE hP hS sh116 g2 dX0_add_19 (fun H locs hP hS => ?_)
  refine lv_aload_n hx hb dX0_add_20 rfl (lv_at hl 0 rfl) ?_
  refine lv_dup hx hb dX0_add_21 rfl ?_
  refine gfX0_16 C hE hP dX0_add_22 ?_
  refine lv_iconst (v := 1) hx hb dX0_add_25 (by decide) ?_
  refine lv_iadd hx hb dX0_add_26 ?_
  refine pfX0_16 C hE hP hS dX0_add_27 (fun H locs hP hS => ?_)
  refine lv_aload_n hx hb dX0_add_30 rfl (lv_at hl 0 rfl) ?_
  refine gfX0_16 C hE hP dX0_add_31 ?_
  refine lv_iconst (v := 1) hx hb dX0_add_34 (by decide) ?_
  refine lv_isub hx hb dX0_add_35 ?_
  exact hret _ _ _ _ _ _ (OB_some hf) hP hS dX0_add_36
def rm_X0_landsOf : Room := { frames := 0, cells := 0, slots := 0, locals := 0 }
set_option maxRecDepth 100000 in
set_option maxHeartbeats 8000000 in
theorem c_X0_landsOf {l : Launch} {G : GG} {a1 : Int32} {M : Mem} {h : Int64}  {P9 : Int32 → Prop} (hf : OB (f_X0_landsOf a1 M) P9) : Met1 l yX0_landsOf cX0_landsOf 2 (some .int) rm_X0_landsOf G [.ref (xa G 114), .int a1] M h (QI0 G M h P9) := by
  unfold f_X0_landsOf at hf
  refine xm_i0 (by decide) (Nat.le_of_ble_eq_true rfl) ?_
  intro p e s m args below meth c ls Q C hE hret hP hS hl
  have C : CallFix p m c cX0_landsOf 2 s args TB RX0 := C
  have hx := C.1
  have hb := C.2.1
  have hl : lv_has ls 2 [(0, .ref (xa G 114)), (1, .int a1)] := hl
  refine lv_aload_n hx hb dX0_landsOf_0 rfl (lv_at hl 0 rfl) ?_
  refine gfX0_9 C hE hP dX0_landsOf_1 ?_
  refine lv_iload_n hx hb dX0_landsOf_4 rfl (lv_at hl 1 rfl) ?_
  obtain ⟨g1, hf⟩ := OB_g hf
  refine x_iald C hE hP sh115 g1 dX0_landsOf_5 ?_
  exact hret _ _ _ _ _ (OB_some hf) hP hS dX0_landsOf_6
def rm_X0_ageOf : Room := { frames := 0, cells := 0, slots := 0, locals := 0 }
set_option maxRecDepth 100000 in
set_option maxHeartbeats 8000000 in
theorem c_X0_ageOf {l : Launch} {G : GG} {a1 : Int32} {M : Mem} {h : Int64}  {P9 : Int32 → Prop} (hf : OB (f_X0_ageOf a1 M) P9) : Met1 l yX0_ageOf cX0_ageOf 2 (some .int) rm_X0_ageOf G [.ref (xa G 114), .int a1] M h (QI0 G M h P9) := by
  unfold f_X0_ageOf at hf
  refine xm_i0 (by decide) (Nat.le_of_ble_eq_true rfl) ?_
  intro p e s m args below meth c ls Q C hE hret hP hS hl
  have C : CallFix p m c cX0_ageOf 2 s args TB RX0 := C
  have hx := C.1
  have hb := C.2.1
  have hl : lv_has ls 2 [(0, .ref (xa G 114)), (1, .int a1)] := hl
  refine lv_aload_n hx hb dX0_ageOf_0 rfl (lv_at hl 0 rfl) ?_
  refine gfX0_13 C hE hP dX0_ageOf_1 ?_
  refine lv_iload_n hx hb dX0_ageOf_4 rfl (lv_at hl 1 rfl) ?_
  obtain ⟨g1, hf⟩ := OB_g hf
  refine x_iald C hE hP sh116 g1 dX0_ageOf_5 ?_
  exact hret _ _ _ _ _ (OB_some hf) hP hS dX0_ageOf_6
def rm_J6_bitCount_0f7a4 : Room := { frames := 0, cells := 0, slots := 0, locals := 0 }
set_option maxRecDepth 100000 in
set_option maxHeartbeats 8000000 in
theorem c_J6_bitCount_0f7a4 {l : Launch} {G : GG} {a0 : Int32} {M : Mem} {h : Int64}  {P9 : Int32 → Prop} (hf : OB (f_J6_bitCount_0f7a4 a0) P9) : Met1 l yJ6_bitCount_0f7a4 cJ6_bitCount_0f7a4 1 (some .int) rm_J6_bitCount_0f7a4 G [.int a0] M h (QI0 G M h P9) := by
  unfold f_J6_bitCount_0f7a4 at hf
  refine xm_i0 (by decide) (Nat.le_of_ble_eq_true rfl) ?_
  intro p e s m args below meth c ls Q C hE hret hP hS hl
  have C : CallFix p m c cJ6_bitCount_0f7a4 1 s args TB RJ6 := C
  have hx := C.1
  have hb := C.2.1
  have hl : lv_has ls 1 [(0, .int a0)] := hl
  refine lv_iload_n hx hb dJ6_bitCount_0f7a4_0 rfl (lv_at hl 0 rfl) ?_
  refine lv_iload_n hx hb dJ6_bitCount_0f7a4_1 rfl (lv_at hl 0 rfl) ?_
  refine lv_iconst (v := 1) hx hb dJ6_bitCount_0f7a4_2 (by decide) ?_
  refine x_iushr C dJ6_bitCount_0f7a4_3 ?_
  refine lv_ldcw hx hb C.2.2.2.1 (C.2.2.2.2 _ ckJ6_265) dJ6_bitCount_0f7a4_4 ?_
  refine lv_iand hx hb dJ6_bitCount_0f7a4_7 ?_
  refine lv_isub hx hb dJ6_bitCount_0f7a4_8 ?_
  refine lv_istore_n (lv' := [(0, .int (a0 - ((jushr a0 1) &&& 1431655765)))]) hx hb dJ6_bitCount_0f7a4_9 rfl hl (by decide) rfl (fun ls hl => ?_)
  refine lv_iload_n hx hb dJ6_bitCount_0f7a4_10 rfl (lv_at hl 0 rfl) ?_
  refine lv_ldcw hx hb C.2.2.2.1 (C.2.2.2.2 _ ckJ6_266) dJ6_bitCount_0f7a4_11 ?_
  refine lv_iand hx hb dJ6_bitCount_0f7a4_14 ?_
  refine lv_iload_n hx hb dJ6_bitCount_0f7a4_15 rfl (lv_at hl 0 rfl) ?_
  refine lv_iconst (v := 2) hx hb dJ6_bitCount_0f7a4_16 (by decide) ?_
  refine x_iushr C dJ6_bitCount_0f7a4_17 ?_
  refine lv_ldcw hx hb C.2.2.2.1 (C.2.2.2.2 _ ckJ6_266) dJ6_bitCount_0f7a4_18 ?_
  refine lv_iand hx hb dJ6_bitCount_0f7a4_21 ?_
  refine lv_iadd hx hb dJ6_bitCount_0f7a4_22 ?_
  refine lv_istore_n (lv' := [(0, .int (((a0 - ((jushr a0 1) &&& 1431655765)) &&& 858993459) + ((jushr (a0 - ((jushr a0 1) &&& 1431655765)) 2) &&& 858993459)))]) hx hb dJ6_bitCount_0f7a4_23 rfl hl (by decide) rfl (fun ls hl => ?_)
  refine lv_iload_n hx hb dJ6_bitCount_0f7a4_24 rfl (lv_at hl 0 rfl) ?_
  refine lv_iload_n hx hb dJ6_bitCount_0f7a4_25 rfl (lv_at hl 0 rfl) ?_
  refine lv_iconst (v := 4) hx hb dJ6_bitCount_0f7a4_26 (by decide) ?_
  refine x_iushr C dJ6_bitCount_0f7a4_27 ?_
  refine lv_iadd hx hb dJ6_bitCount_0f7a4_28 ?_
  refine lv_ldcw hx hb C.2.2.2.1 (C.2.2.2.2 _ ckJ6_267) dJ6_bitCount_0f7a4_29 ?_
  refine lv_iand hx hb dJ6_bitCount_0f7a4_32 ?_
  refine lv_istore_n (lv' := [(0, .int (((((a0 - ((jushr a0 1) &&& 1431655765)) &&& 858993459) + ((jushr (a0 - ((jushr a0 1) &&& 1431655765)) 2) &&& 858993459)) + (jushr (((a0 - ((jushr a0 1) &&& 1431655765)) &&& 858993459) + ((jushr (a0 - ((jushr a0 1) &&& 1431655765)) 2) &&& 858993459)) 4)) &&& 252645135))]) hx hb dJ6_bitCount_0f7a4_33 rfl hl (by decide) rfl (fun ls hl => ?_)
  refine lv_iload_n hx hb dJ6_bitCount_0f7a4_34 rfl (lv_at hl 0 rfl) ?_
  refine lv_iload_n hx hb dJ6_bitCount_0f7a4_35 rfl (lv_at hl 0 rfl) ?_
  refine lv_bipush (v := 8) hx hb dJ6_bitCount_0f7a4_36 (by decide) ?_
  refine x_iushr C dJ6_bitCount_0f7a4_38 ?_
  refine lv_iadd hx hb dJ6_bitCount_0f7a4_39 ?_
  refine lv_istore_n (lv' := [(0, .int ((((((a0 - ((jushr a0 1) &&& 1431655765)) &&& 858993459) + ((jushr (a0 - ((jushr a0 1) &&& 1431655765)) 2) &&& 858993459)) + (jushr (((a0 - ((jushr a0 1) &&& 1431655765)) &&& 858993459) + ((jushr (a0 - ((jushr a0 1) &&& 1431655765)) 2) &&& 858993459)) 4)) &&& 252645135) + (jushr (((((a0 - ((jushr a0 1) &&& 1431655765)) &&& 858993459) + ((jushr (a0 - ((jushr a0 1) &&& 1431655765)) 2) &&& 858993459)) + (jushr (((a0 - ((jushr a0 1) &&& 1431655765)) &&& 858993459) + ((jushr (a0 - ((jushr a0 1) &&& 1431655765)) 2) &&& 858993459)) 4)) &&& 252645135) 8)))]) hx hb dJ6_bitCount_0f7a4_40 rfl hl (by decide) rfl (fun ls hl => ?_)
  refine lv_iload_n hx hb dJ6_bitCount_0f7a4_41 rfl (lv_at hl 0 rfl) ?_
  refine lv_iload_n hx hb dJ6_bitCount_0f7a4_42 rfl (lv_at hl 0 rfl) ?_
  refine lv_bipush (v := 16) hx hb dJ6_bitCount_0f7a4_43 (by decide) ?_
  refine x_iushr C dJ6_bitCount_0f7a4_45 ?_
  refine lv_iadd hx hb dJ6_bitCount_0f7a4_46 ?_
  refine lv_istore_n (lv' := [(0, .int (((((((a0 - ((jushr a0 1) &&& 1431655765)) &&& 858993459) + ((jushr (a0 - ((jushr a0 1) &&& 1431655765)) 2) &&& 858993459)) + (jushr (((a0 - ((jushr a0 1) &&& 1431655765)) &&& 858993459) + ((jushr (a0 - ((jushr a0 1) &&& 1431655765)) 2) &&& 858993459)) 4)) &&& 252645135) + (jushr (((((a0 - ((jushr a0 1) &&& 1431655765)) &&& 858993459) + ((jushr (a0 - ((jushr a0 1) &&& 1431655765)) 2) &&& 858993459)) + (jushr (((a0 - ((jushr a0 1) &&& 1431655765)) &&& 858993459) + ((jushr (a0 - ((jushr a0 1) &&& 1431655765)) 2) &&& 858993459)) 4)) &&& 252645135) 8)) + (jushr ((((((a0 - ((jushr a0 1) &&& 1431655765)) &&& 858993459) + ((jushr (a0 - ((jushr a0 1) &&& 1431655765)) 2) &&& 858993459)) + (jushr (((a0 - ((jushr a0 1) &&& 1431655765)) &&& 858993459) + ((jushr (a0 - ((jushr a0 1) &&& 1431655765)) 2) &&& 858993459)) 4)) &&& 252645135) + (jushr (((((a0 - ((jushr a0 1) &&& 1431655765)) &&& 858993459) + ((jushr (a0 - ((jushr a0 1) &&& 1431655765)) 2) &&& 858993459)) + (jushr (((a0 - ((jushr a0 1) &&& 1431655765)) &&& 858993459) + ((jushr (a0 - ((jushr a0 1) &&& 1431655765)) 2) &&& 858993459)) 4)) &&& 252645135) 8)) 16)))]) hx hb dJ6_bitCount_0f7a4_47 rfl hl (by decide) rfl (fun ls hl => ?_)
  refine lv_iload_n hx hb dJ6_bitCount_0f7a4_48 rfl (lv_at hl 0 rfl) ?_
  refine lv_bipush (v := 63) hx hb dJ6_bitCount_0f7a4_49 (by decide) ?_
  refine lv_iand hx hb dJ6_bitCount_0f7a4_51 ?_
  exact hret _ _ _ _ _ (OB_some hf) hP hS dJ6_bitCount_0f7a4_52
def rm_X0_howManyLands : Room := { frames := 1, cells := 0, slots := 0, locals := 20 }
set_option maxRecDepth 100000 in
set_option maxHeartbeats 8000000 in
theorem c_X0_howManyLands {l : Launch} {G : GG} {a1 : Int32} {M : Mem} {h : Int64}  {P9 : Int32 → Prop} (hf : OB (f_X0_howManyLands a1 M) P9) : Met1 l yX0_howManyLands cX0_howManyLands 2 (some .int) rm_X0_howManyLands G [.ref (xa G 114), .int a1] M h (QI0 G M h P9) := by
  unfold f_X0_howManyLands at hf
  refine xm_i0 (by decide) (Nat.le_of_ble_eq_true rfl) ?_
  intro p e s m args below meth c ls Q C hE hret hP hS hl
  have C : CallFix p m c cX0_howManyLands 2 s args TB RX0 := C
  have hx := C.1
  have hb := C.2.1
  have hl : lv_has ls 2 [(0, .ref (xa G 114)), (1, .int a1)] := hl
  refine lv_aload_n hx hb dX0_howManyLands_0 rfl (lv_at hl 0 rfl) ?_
  refine gfX0_9 C hE hP dX0_howManyLands_1 ?_
  refine lv_iload_n hx hb dX0_howManyLands_4 rfl (lv_at hl 1 rfl) ?_
  obtain ⟨g1, hf⟩ := OB_g hf
  refine x_iald C hE hP sh115 g1 dX0_howManyLands_5 ?_
  refine x_ci0 (rest := []) (x_runS C hE hP hS ykJ6_bitCount_0f7a4 lkX0_20 (c_J6_bitCount_0f7a4 (OB_bind hf)) (by decide) rfl hl.1 (Nat.le_of_ble_eq_true rfl) dX0_howManyLands_6) hS (fun r2 H locs hf hP hS => ?_)
  exact hret _ _ _ _ _ (OB_some hf) hP hS dX0_howManyLands_9
def rm_X2_turned : Room := { frames := 0, cells := 0, slots := 0, locals := 0 }
set_option maxRecDepth 100000 in
set_option maxHeartbeats 8000000 in
theorem c_X2_turned {l : Launch} {G : GG} {a0 : Int32} {a1 : Int32} {M : Mem} {h : Int64}  {P9 : Int32 → Prop} (hf : OB (f_X2_turned a0 a1) P9) : Met1 l yX2_turned cX2_turned 2 (some .int) rm_X2_turned G [.int a0, .int a1] M h (QI0 G M h P9) := by
  unfold f_X2_turned at hf
  refine xm_i0 (by decide) (Nat.le_of_ble_eq_true rfl) ?_
  intro p e s m args below meth c ls Q C hE hret hP hS hl
  have C : CallFix p m c cX2_turned 2 s args TB RX2 := C
  have hx := C.1
  have hb := C.2.1
  have hl : lv_has ls 2 [(0, .int a0), (1, .int a1)] := hl
  refine lv_iload_n hx hb dX2_turned_0 rfl (lv_at hl 0 rfl) ?_
  refine lv_iload_n hx hb dX2_turned_1 rfl (lv_at hl 1 rfl) ?_
  refine x_ishl C dX2_turned_2 ?_
  refine lv_iload_n hx hb dX2_turned_3 rfl (lv_at hl 0 rfl) ?_
  refine lv_bipush (v := 16) hx hb dX2_turned_4 (by decide) ?_
  refine lv_iload_n hx hb dX2_turned_6 rfl (lv_at hl 1 rfl) ?_
  refine lv_isub hx hb dX2_turned_7 ?_
  refine x_iushr C dX2_turned_8 ?_
  refine lv_ior hx hb dX2_turned_9 ?_
  refine lv_ldc hx hb C.2.2.2.1 (C.2.2.2.2 _ ckX2_54) dX2_turned_10 ?_
  refine lv_iand hx hb dX2_turned_12 ?_
  exact hret _ _ _ _ _ (OB_some hf) hP hS dX2_turned_13
def rm_X1_lookAtRow : Room := { frames := 1, cells := 0, slots := 0, locals := 21 }
set_option maxRecDepth 100000 in
set_option maxHeartbeats 8000000 in
theorem c_X1_lookAtRow {l : Launch} {G : GG} {a1 : Int32} {a2 : Int32} {M : Mem} {h : Int64}  {P9 : Mem → Prop} (hf : OB (f_X1_lookAtRow a1 a2 M) P9) : Met1 l yX1_lookAtRow cX1_lookAtRow 8 none rm_X1_lookAtRow G [.ref (xa G 9), .int a1, .int a2] M h (QV1 G h P9) := by
  unfold f_X1_lookAtRow at hf
  refine xm_v1 (by decide) (Nat.le_of_ble_eq_true rfl) ?_
  intro p e s m args below meth c ls Q C hE hret hP hS hl
  have C : CallFix p m c cX1_lookAtRow 8 s args TB RX1 := C
  have hx := C.1
  have hb := C.2.1
  have hl : lv_has ls 8 [(0, .ref (xa G 9)), (1, .int a1), (2, .int a2)] := hl
  refine lv_aload_n hx hb dX1_lookAtRow_0 rfl (lv_at hl 0 rfl) ?_
  refine lv_dup hx hb dX1_lookAtRow_1 rfl ?_
  refine gfX1_15 C hE hP dX1_lookAtRow_2 ?_
  refine lv_iload_n hx hb dX1_lookAtRow_5 rfl (lv_at hl 1 rfl) ?_
  refine lv_iload_n hx hb dX1_lookAtRow_6 rfl (lv_at hl 2 rfl) ?_
  refine lv_iand hx hb dX1_lookAtRow_7 ?_
  refine x_ci0 (rest := [.int (M 9 1), .ref (xa G 9)]) (x_runS C hE hP hS ykJ6_bitCount_0f7a4 lkX1_46 (c_J6_bitCount_0f7a4 (OB_bind hf)) (by decide) rfl hl.1 (Nat.le_of_ble_eq_true rfl) dX1_lookAtRow_8) hS (fun r1 H locs hf hP hS => ?_)
  refine lv_iadd hx hb dX1_lookAtRow_11 ?_
  refine pfX1_15 C hE hP hS dX1_lookAtRow_12 (fun H locs hP hS => ?_)
  refine lv_aload_n hx hb dX1_lookAtRow_15 rfl (lv_at hl 0 rfl) ?_
  refine lv_dup hx hb dX1_lookAtRow_16 rfl ?_
  refine gfX1_19 C hE hP dX1_lookAtRow_17 ?_
  refine lv_iload_n hx hb dX1_lookAtRow_20 rfl (lv_at hl 1 rfl) ?_
  refine lv_iload_n hx hb dX1_lookAtRow_21 rfl (lv_at hl 2 rfl) ?_
  refine lv_iconst (v := 1) hx hb dX1_lookAtRow_22 (by decide) ?_
  refine x_ci0 (rest := [.int a1, .int ((up M 9 1 ((M 9 1) + r1)) 9 2), .ref (xa G 9)]) (x_runS C hE hP hS ykX2_turned lkX1_39 (c_X2_turned (OB_bind hf)) (by decide) rfl hl.1 (Nat.le_of_ble_eq_true rfl) dX1_lookAtRow_23) hS (fun r2 H locs hf hP hS => ?_)
  refine lv_iand hx hb dX1_lookAtRow_26 ?_
  refine x_ci0 (rest := [.int ((up M 9 1 ((M 9 1) + r1)) 9 2), .ref (xa G 9)]) (x_runS C hE hP hS ykJ6_bitCount_0f7a4 lkX1_46 (c_J6_bitCount_0f7a4 (OB_bind hf)) (by decide) rfl hl.1 (Nat.le_of_ble_eq_true rfl) dX1_lookAtRow_27) hS (fun r3 H locs hf hP hS => ?_)
  refine lv_iload_n hx hb dX1_lookAtRow_30 rfl (lv_at hl 1 rfl) ?_
  refine lv_iload_n hx hb dX1_lookAtRow_31 rfl (lv_at hl 2 rfl) ?_
  refine lv_bipush (v := 15) hx hb dX1_lookAtRow_32 (by decide) ?_
  refine x_ci0 (rest := [.int a1, .int r3, .int ((up M 9 1 ((M 9 1) + r1)) 9 2), .ref (xa G 9)]) (x_runS C hE hP hS ykX2_turned lkX1_39 (c_X2_turned (OB_bind hf)) (by decide) rfl hl.1 (Nat.le_of_ble_eq_true rfl) dX1_lookAtRow_34) hS (fun r4 H locs hf hP hS => ?_)
  refine lv_iand hx hb dX1_lookAtRow_37 ?_
  refine x_ci0 (rest := [.int r3, .int ((up M 9 1 ((M 9 1) + r1)) 9 2), .ref (xa G 9)]) (x_runS C hE hP hS ykJ6_bitCount_0f7a4 lkX1_46 (c_J6_bitCount_0f7a4 (OB_bind hf)) (by decide) rfl hl.1 (Nat.le_of_ble_eq_true rfl) dX1_lookAtRow_38) hS (fun r5 H locs hf hP hS => ?_)
  refine lv_iadd hx hb dX1_lookAtRow_41 ?_
  refine lv_iadd hx hb dX1_lookAtRow_42 ?_
  refine pfX1_19 C hE hP hS dX1_lookAtRow_43 (fun H locs hP hS => ?_)
  refine lv_iload_n hx hb dX1_lookAtRow_46 rfl (lv_at hl 1 rfl) ?_
  refine lv_iload_n hx hb dX1_lookAtRow_47 rfl (lv_at hl 2 rfl) ?_
  refine lv_ior hx hb dX1_lookAtRow_48 ?_
  refine lv_iconst (v := -1) hx hb dX1_lookAtRow_49 (by decide) ?_
  refine lv_ixor hx hb dX1_lookAtRow_50 ?_
  refine lv_ldc hx hb C.2.2.2.1 (C.2.2.2.2 _ ckX1_52) dX1_lookAtRow_51 ?_
  refine lv_iand hx hb dX1_lookAtRow_53 ?_
  refine lv_istore_n (lv' := [(3, .int (((a1 ||| a2) ^^^ (-1)) &&& 65535)), (0, .ref (xa G 9)), (1, .int a1), (2, .int a2)]) hx hb dX1_lookAtRow_54 rfl hl (by decide) rfl (fun ls hl => ?_)
  refine lv_ldc hx hb C.2.2.2.1 (C.2.2.2.2 _ ckX1_52) dX1_lookAtRow_55 ?_
  refine lv_istore (lv' := [(4, .int 65535), (3, .int (((a1 ||| a2) ^^^ (-1)) &&& 65535)), (0, .ref (xa G 9)), (1, .int a1), (2, .int a2)]) hx hb dX1_lookAtRow_57 hl (by decide) rfl (fun ls hl => ?_)
  refine lv_iconst (v := 1) hx hb dX1_lookAtRow_59 (by decide) ?_
  refine lv_istore (lv' := [(5, .int 1), (4, .int 65535), (3, .int (((a1 ||| a2) ^^^ (-1)) &&& 65535)), (0, .ref (xa G 9)), (1, .int a1), (2, .int a2)]) hx hb dX1_lookAtRow_60 hl (by decide) rfl (fun ls hl => ?_)
  refine xj (fun (M23 : Mem) => ∀ (H : Heap) (locs : List Loc) (ls : Array Slot), va_P G.1 vwCl (wl G M23 h) H → va_S (Aw G) s.heap H locs → lv_has ls 8 [] → W p l e rm_X1_lookAtRow s m args below meth c H locs 0 0 Q (F0 m 136 ls [])) hf ?_ (fun hf => ?_)
  · rintro M23 hf H locs ls hP hS hl
    exact hret _ _ _ _ _ (OB_some hf) hP hS dX1_lookAtRow_136
  · refine (it_W (fun (zz : (Int32 × Int32 × Mem)) => match zz with | (x20, x21, M22) => ∀ (H : Heap) (locs : List Loc) (ls : Array Slot), va_P G.1 vwCl (wl G M22 h) H → va_S (Aw G) s.heap H locs → lv_has ls 8 [(0, .ref (xa G 9)), (1, .int a1), (2, .int a2), (3, .int (((a1 ||| a2) ^^^ (-1)) &&& 65535)), (4, .int x20), (5, .int x21)] → W p l e rm_X1_lookAtRow s m args below meth c H locs 0 0 Q (F0 m 62 ls [])) hf ?_) _ _ _ hP hS (lv_sub hl [3, 4, 5, 2, 1, 0] rfl)
    rintro ⟨x20, x21, M22⟩ hf H locs ls hP hS hl
    unfold f_X1_lookAtRow_b62 at hf
    refine lv_iload hx hb dX1_lookAtRow_62 (lv_at hl 5 rfl) ?_
    refine lv_iconst (v := 3) hx hb dX1_lookAtRow_64 (by decide) ?_
    refine lv_icmp_gt (tgt := 136) hx hb dX1_lookAtRow_65 (by decide) (fun hc => ?_) (fun hc => ?_)
    · have hf := (OB_t hf hc)
      exact (it_e hf) _ _ _ hP hS (lv_sub hl [] rfl)
    · have hf := (OB_f hf hc)
      refine lv_iload hx hb dX1_lookAtRow_68 (lv_at hl 4 rfl) ?_
      refine lv_iload_n hx hb dX1_lookAtRow_70 rfl (lv_at hl 3 rfl) ?_
      refine lv_bipush (v := 16) hx hb dX1_lookAtRow_71 (by decide) ?_
      refine lv_iload hx hb dX1_lookAtRow_73 (lv_at hl 5 rfl) ?_
      refine lv_isub hx hb dX1_lookAtRow_75 ?_
      refine x_ci0 (rest := [.int x20]) (x_runS C hE hP hS ykX2_turned lkX1_39 (c_X2_turned (OB_bind hf)) (by decide) rfl hl.1 (Nat.le_of_ble_eq_true rfl) dX1_lookAtRow_76) hS (fun r24 H locs hf hP hS => ?_)
      refine lv_iand hx hb dX1_lookAtRow_79 ?_
      refine lv_istore (lv' := [(4, .int (x20 &&& r24)), (0, .ref (xa G 9)), (1, .int a1), (2, .int a2), (3, .int (((a1 ||| a2) ^^^ (-1)) &&& 65535)), (5, .int x21)]) hx hb dX1_lookAtRow_80 hl (by decide) rfl (fun ls hl => ?_)
      refine lv_bipush (v := 16) hx hb dX1_lookAtRow_82 (by decide) ?_
      refine lv_iload hx hb dX1_lookAtRow_84 (lv_at hl 5 rfl) ?_
      refine lv_isub hx hb dX1_lookAtRow_86 ?_
      refine lv_iconst (v := 1) hx hb dX1_lookAtRow_87 (by decide) ?_
      refine lv_isub hx hb dX1_lookAtRow_88 ?_
      refine lv_istore (lv' := [(6, .int ((16 - x21) - 1)), (4, .int (x20 &&& r24)), (0, .ref (xa G 9)), (1, .int a1), (2, .int a2), (3, .int (((a1 ||| a2) ^^^ (-1)) &&& 65535)), (5, .int x21)]) hx hb dX1_lookAtRow_89 hl (by decide) rfl (fun ls hl => ?_)
      refine lv_iload_n hx hb dX1_lookAtRow_91 rfl (lv_at hl 3 rfl) ?_
      refine lv_iload_n hx hb dX1_lookAtRow_92 rfl (lv_at hl 4 rfl) ?_
      refine lv_iload hx hb dX1_lookAtRow_93 (lv_at hl 0 rfl) ?_
      refine x_ci0 (rest := [.int a1]) (x_runS C hE hP hS ykX2_turned lkX1_39 (c_X2_turned (OB_bind hf)) (by decide) rfl hl.1 (Nat.le_of_ble_eq_true rfl) dX1_lookAtRow_95) hS (fun r25 H locs hf hP hS => ?_)
      refine lv_iand hx hb dX1_lookAtRow_98 ?_
      refine lv_iload_n hx hb dX1_lookAtRow_99 rfl (lv_at hl 4 rfl) ?_
      refine lv_iload_n hx hb dX1_lookAtRow_100 rfl (lv_at hl 3 rfl) ?_
      refine lv_iload hx hb dX1_lookAtRow_101 (lv_at hl 0 rfl) ?_
      refine x_ci0 (rest := [.int a2, .int (a1 &&& r25)]) (x_runS C hE hP hS ykX2_turned lkX1_39 (c_X2_turned (OB_bind hf)) (by decide) rfl hl.1 (Nat.le_of_ble_eq_true rfl) dX1_lookAtRow_103) hS (fun r26 H locs hf hP hS => ?_)
      refine lv_iand hx hb dX1_lookAtRow_106 ?_
      refine lv_ior hx hb dX1_lookAtRow_107 ?_
      refine lv_istore (lv' := [(7, .int ((a1 &&& r25) ||| (a2 &&& r26))), (6, .int ((16 - x21) - 1)), (4, .int (x20 &&& r24)), (0, .ref (xa G 9)), (1, .int a1), (2, .int a2), (3, .int (((a1 ||| a2) ^^^ (-1)) &&& 65535)), (5, .int x21)]) hx hb dX1_lookAtRow_108 hl (by decide) rfl (fun ls hl => ?_)
      refine lv_aload_n hx hb dX1_lookAtRow_110 rfl (lv_at hl 3 rfl) ?_
      refine lv_dup hx hb dX1_lookAtRow_111 rfl ?_
      refine gfX1_22 C hE hP dX1_lookAtRow_112 ?_
      refine lv_iload hx hb dX1_lookAtRow_115 (lv_at hl 7 rfl) ?_
      refine lv_iload hx hb dX1_lookAtRow_117 (lv_at hl 2 rfl) ?_
      refine lv_iload hx hb dX1_lookAtRow_119 (lv_at hl 0 rfl) ?_
      refine lv_iand hx hb dX1_lookAtRow_121 ?_
      refine x_ci0 (rest := [.int x21, .int (M22 9 3), .ref (xa G 9)]) (x_runS C hE hP hS ykJ6_bitCount_0f7a4 lkX1_46 (c_J6_bitCount_0f7a4 (OB_bind hf)) (by decide) rfl hl.1 (Nat.le_of_ble_eq_true rfl) dX1_lookAtRow_122) hS (fun r27 H locs hf hP hS => ?_)
      refine lv_imul hx hb dX1_lookAtRow_125 ?_
      refine lv_iadd hx hb dX1_lookAtRow_126 ?_
      refine pfX1_22 C hE hP hS dX1_lookAtRow_127 (fun H locs hP hS => ?_)
      refine lv_iinc (v := (x21 + 1)) (lv' := [(5, .int (x21 + 1)), (7, .int ((a1 &&& r25) ||| (a2 &&& r26))), (6, .int ((16 - x21) - 1)), (4, .int (x20 &&& r24)), (0, .ref (xa G 9)), (1, .int a1), (2, .int a2), (3, .int (((a1 ||| a2) ^^^ (-1)) &&& 65535))]) hx hb dX1_lookAtRow_130 hl (k := 7) rfl rfl (by decide) rfl (fun ls hl => ?_)
      refine lv_goto (tgt := 62) hx hb dX1_lookAtRow_133 (by decide) ?_
      exact (it_c hf) _ _ _ hP hS (lv_sub hl [4, 5, 6, 7, 3, 0] rfl)
def rm_X2_maskOf : Room := { frames := 0, cells := 0, slots := 0, locals := 0 }
set_option maxRecDepth 100000 in
set_option maxHeartbeats 8000000 in
theorem c_X2_maskOf {l : Launch} {G : GG} {a1 : Int32} {a2 : Int32} {M : Mem} {h : Int64}  {P9 : Int32 → Prop} (hf : OB (f_X2_maskOf a1 a2 M) P9) : Met1 l yX2_maskOf cX2_maskOf 3 (some .int) rm_X2_maskOf G [.ref (xa G 1), .int a1, .int a2] M h (QI0 G M h P9) := by
  unfold f_X2_maskOf at hf
  refine xm_i0 (by decide) (Nat.le_of_ble_eq_true rfl) ?_
  intro p e s m args below meth c ls Q C hE hret hP hS hl
  have C : CallFix p m c cX2_maskOf 3 s args TB RX2 := C
  have hx := C.1
  have hb := C.2.1
  have hl : lv_has ls 3 [(0, .ref (xa G 1)), (1, .int a1), (2, .int a2)] := hl
  refine lv_aload_n hx hb dX2_maskOf_0 rfl (lv_at hl 0 rfl) ?_
  refine gfX2_15 C hE hP dX2_maskOf_1 ?_
  refine lv_iload_n hx hb dX2_maskOf_4 rfl (lv_at hl 1 rfl) ?_
  refine lv_bipush (v := 8) hx hb dX2_maskOf_5 (by decide) ?_
  refine lv_imul hx hb dX2_maskOf_7 ?_
  refine lv_iload_n hx hb dX2_maskOf_8 rfl (lv_at hl 2 rfl) ?_
  refine lv_iadd hx hb dX2_maskOf_9 ?_
  obtain ⟨g1, hf⟩ := OB_g hf
  refine x_iald C hE hP sh3 g1 dX2_maskOf_10 ?_
  exact hret _ _ _ _ _ (OB_some hf) hP hS dX2_maskOf_11
def rm_X1_look : Room := { frames := 2, cells := 0, slots := 0, locals := 48 }
set_option maxRecDepth 100000 in
set_option maxHeartbeats 8000000 in
theorem c_X1_look {l : Launch} {G : GG} {a1 : Int32} {a2 : Int32} {a3 : Int32} {a4 : Int32} {M : Mem} {h : Int64}  {P9 : Mem → Prop} (hf : OB (f_X1_look a1 a2 a3 a4 M) P9) : Met1 l yX1_look cX1_look 8 none rm_X1_look G [.ref (xa G 9), .int a1, .int a2, .int a3, .int a4] M h (QV1 G h P9) := by
  unfold f_X1_look at hf
  refine xm_v1 (by decide) (Nat.le_of_ble_eq_true rfl) ?_
  intro p e s m args below meth c ls Q C hE hret hP hS hl
  have C : CallFix p m c cX1_look 8 s args TB RX1 := C
  have hx := C.1
  have hb := C.2.1
  have hl : lv_has ls 8 [(0, .ref (xa G 9)), (1, .int a1), (2, .int a2), (3, .int a3), (4, .int a4)] := hl
  refine lv_aload_n hx hb dX1_look_0 rfl (lv_at hl 0 rfl) ?_
  refine lv_iconst (v := 0) hx hb dX1_look_1 (by decide) ?_
  refine pfX1_15 C hE hP hS dX1_look_2 (fun H locs hP hS => ?_)
  refine lv_aload_n hx hb dX1_look_5 rfl (lv_at hl 0 rfl) ?_
  refine lv_iconst (v := 0) hx hb dX1_look_6 (by decide) ?_
  refine pfX1_19 C hE hP hS dX1_look_7 (fun H locs hP hS => ?_)
  refine lv_aload_n hx hb dX1_look_10 rfl (lv_at hl 0 rfl) ?_
  refine lv_iconst (v := 0) hx hb dX1_look_11 (by decide) ?_
  refine pfX1_22 C hE hP hS dX1_look_12 (fun H locs hP hS => ?_)
  refine lv_iconst (v := 0) hx hb dX1_look_15 (by decide) ?_
  refine lv_iload_n hx hb dX1_look_16 rfl (lv_at hl 3 rfl) ?_
  refine x_mmax C hl.1 lkX1_25 (by decide) (Nat.le_of_ble_eq_true rfl) dX1_look_17 ?_
  refine lv_istore (lv' := [(5, .int (jmax 0 a3)), (0, .ref (xa G 9)), (1, .int a1), (2, .int a2), (3, .int a3), (4, .int a4)]) hx hb dX1_look_20 hl (by decide) rfl (fun ls hl => ?_)
  refine xj (fun (M12 : Mem) => ∀ (H : Heap) (locs : List Loc) (ls : Array Slot), va_P G.1 vwCl (wl G M12 h) H → va_S (Aw G) s.heap H locs → lv_has ls 8 [] → W p l e rm_X1_look s m args below meth c H locs 0 0 Q (F0 m 91 ls [])) hf ?_ (fun hf => ?_)
  · rintro M12 hf H locs ls hP hS hl
    exact hret _ _ _ _ _ (OB_some hf) hP hS dX1_look_91
  · refine (it_W (fun (zz : (Int32 × Mem)) => match zz with | (x10, M11) => ∀ (H : Heap) (locs : List Loc) (ls : Array Slot), va_P G.1 vwCl (wl G M11 h) H → va_S (Aw G) s.heap H locs → lv_has ls 8 [(0, .ref (xa G 9)), (1, .int a1), (2, .int a2), (3, .int a3), (4, .int a4), (5, .int x10)] → W p l e rm_X1_look s m args below meth c H locs 0 0 Q (F0 m 22 ls [])) hf ?_) _ _ _ hP hS (lv_sub hl [1, 2, 3, 4, 5, 0] rfl)
    rintro ⟨x10, M11⟩ hf H locs ls hP hS hl
    unfold f_X1_look_b22 at hf
    refine lv_iload hx hb dX1_look_22 (lv_at hl 5 rfl) ?_
    refine lv_bipush (v := 8) hx hb dX1_look_24 (by decide) ?_
    refine lv_bipush (v := 8) hx hb dX1_look_26 (by decide) ?_
    refine lv_iload_n hx hb dX1_look_28 rfl (lv_at hl 3 rfl) ?_
    refine lv_iadd hx hb dX1_look_29 ?_
    refine x_mmin C hl.1 lkX1_31 (by decide) (Nat.le_of_ble_eq_true rfl) dX1_look_30 ?_
    refine lv_icmp_ge (tgt := 91) hx hb dX1_look_33 (by decide) (fun hc => ?_) (fun hc => ?_)
    · have hf := (OB_t hf hc)
      exact (it_e hf) _ _ _ hP hS (lv_sub hl [] rfl)
    · have hf := (OB_f hf hc)
      refine lv_aload_n hx hb dX1_look_36 rfl (lv_at hl 0 rfl) ?_
      refine gfX1_9 C hE hP dX1_look_37 ?_
      refine lv_iload_n hx hb dX1_look_40 rfl (lv_at hl 1 rfl) ?_
      refine lv_iload hx hb dX1_look_41 (lv_at hl 5 rfl) ?_
      refine x_ci0 (rest := []) (x_runV C hE hP hS ykX2_maskOf lkX1_34 sh1 rfl (c_X2_maskOf (OB_bind hf)) (by decide) rfl hl.1 (Nat.le_of_ble_eq_true rfl) dX1_look_43) hS (fun r13 H locs hf hP hS => ?_)
      refine lv_istore (lv' := [(6, .int r13), (0, .ref (xa G 9)), (1, .int a1), (2, .int a2), (3, .int a3), (4, .int a4), (5, .int x10)]) hx hb dX1_look_46 hl (by decide) rfl (fun ls hl => ?_)
      refine lv_aload_n hx hb dX1_look_48 rfl (lv_at hl 1 rfl) ?_
      refine gfX1_9 C hE hP dX1_look_49 ?_
      refine lv_iload_n hx hb dX1_look_52 rfl (lv_at hl 3 rfl) ?_
      refine lv_iload hx hb dX1_look_53 (lv_at hl 6 rfl) ?_
      refine lv_iload_n hx hb dX1_look_55 rfl (lv_at hl 4 rfl) ?_
      refine lv_isub hx hb dX1_look_56 ?_
      refine x_ci0 (rest := []) (x_runV C hE hP hS ykX2_maskOf lkX1_34 sh1 rfl (c_X2_maskOf (OB_bind hf)) (by decide) rfl hl.1 (Nat.le_of_ble_eq_true rfl) dX1_look_57) hS (fun r14 H locs hf hP hS => ?_)
      refine lv_iload hx hb dX1_look_60 (lv_at hl 5 rfl) ?_
      refine x_ci0 (rest := []) (x_runS C hE hP hS ykX2_turned lkX1_39 (c_X2_turned (OB_bind hf)) (by decide) rfl hl.1 (Nat.le_of_ble_eq_true rfl) dX1_look_62) hS (fun r15 H locs hf hP hS => ?_)
      refine lv_istore (lv' := [(7, .int r15), (6, .int r13), (0, .ref (xa G 9)), (1, .int a1), (2, .int a2), (3, .int a3), (4, .int a4), (5, .int x10)]) hx hb dX1_look_65 hl (by decide) rfl (fun ls hl => ?_)
      refine lv_iload hx hb dX1_look_67 (lv_at hl 1 rfl) ?_
      refine xj (fun (M18 : Mem) => ∀ (H : Heap) (locs : List Loc) (ls : Array Slot), va_P G.1 vwCl (wl G M18 h) H → va_S (Aw G) s.heap H locs → lv_has ls 8 [(0, .ref (xa G 9)), (1, .int a1), (2, .int a2), (3, .int a3), (4, .int a4), (5, .int x10)] → W p l e rm_X1_look s m args below meth c H locs 0 0 Q (F0 m 85 ls [])) hf ?_ (fun hf => ?_)
      · rintro M18 hf H locs ls hP hS hl
        refine lv_iinc (v := (x10 + 1)) (lv' := [(5, .int (x10 + 1)), (0, .ref (xa G 9)), (1, .int a1), (2, .int a2), (3, .int a3), (4, .int a4)]) hx hb dX1_look_85 hl (k := 5) rfl rfl (by decide) rfl (fun ls hl => ?_)
        refine lv_goto (tgt := 22) hx hb dX1_look_88 (by decide) ?_
        exact (it_c hf) _ _ _ hP hS (lv_sub hl [1, 2, 3, 4, 5, 0] rfl)
      · skip
        refine lv_if_eq (tgt := 85) hx hb dX1_look_69 (by decide) (fun hc => ?_) (fun hc => ?_)
        · have hf := (OB_t hf hc)
          exact (OB_some hf) _ _ _ hP hS (lv_sub hl [2, 3, 4, 5, 6, 7] rfl)
        · have hf := (OB_f hf hc)
          refine lv_iload hx hb dX1_look_72 (lv_at hl 0 rfl) ?_
          refine lv_if_eq (tgt := 85) hx hb dX1_look_74 (by decide) (fun hc => ?_) (fun hc => ?_)
          · have hf := (OB_t hf hc)
            exact (OB_some hf) _ _ _ hP hS (lv_sub hl [2, 3, 4, 5, 6, 7] rfl)
          · have hf := (OB_f hf hc)
            refine lv_aload_n hx hb dX1_look_77 rfl (lv_at hl 2 rfl) ?_
            refine lv_iload hx hb dX1_look_78 (lv_at hl 1 rfl) ?_
            refine lv_iload hx hb dX1_look_80 (lv_at hl 0 rfl) ?_
            refine x_cv1 (rest := []) (x_runV C hE hP hS ykX1_lookAtRow lkX1_42 sh9 rfl (c_X1_lookAtRow (OB_bind hf)) (by decide) rfl hl.1 (Nat.le_of_ble_eq_true rfl) dX1_look_82) hS (fun M19 H locs hf hP hS => ?_)
            exact (OB_some hf) _ _ _ hP hS (lv_sub hl [2, 3, 4, 5, 6, 7] rfl)
def rm_X1_price : Room := { frames := 0, cells := 0, slots := 0, locals := 0 }
set_option maxRecDepth 100000 in
set_option maxHeartbeats 8000000 in
theorem c_X1_price {l : Launch} {G : GG}  {M : Mem} {h : Int64}  {P9 : Int32 → Prop} (hf : OB (f_X1_price M) P9) : Met1 l yX1_price cX1_price 1 (some .int) rm_X1_price G [.ref (xa G 9)] M h (QI0 G M h P9) := by
  unfold f_X1_price at hf
  refine xm_i0 (by decide) (Nat.le_of_ble_eq_true rfl) ?_
  intro p e s m args below meth c ls Q C hE hret hP hS hl
  have C : CallFix p m c cX1_price 1 s args TB RX1 := C
  have hx := C.1
  have hb := C.2.1
  have hl : lv_has ls 1 [(0, .ref (xa G 9))] := hl
  refine lv_iconst (v := 3) hx hb dX1_price_0 (by decide) ?_
  refine lv_aload_n hx hb dX1_price_1 rfl (lv_at hl 0 rfl) ?_
  refine gfX1_15 C hE hP dX1_price_2 ?_
  refine lv_imul hx hb dX1_price_5 ?_
  refine lv_aload_n hx hb dX1_price_6 rfl (lv_at hl 0 rfl) ?_
  refine gfX1_22 C hE hP dX1_price_7 ?_
  refine lv_iadd hx hb dX1_price_10 ?_
  refine lv_aload_n hx hb dX1_price_11 rfl (lv_at hl 0 rfl) ?_
  refine gfX1_19 C hE hP dX1_price_12 ?_
  refine lv_isub hx hb dX1_price_15 ?_
  exact hret _ _ _ _ _ (OB_some hf) hP hS dX1_price_16
def rm_X1_isCounted : Room := { frames := 0, cells := 0, slots := 0, locals := 0 }
set_option maxRecDepth 100000 in
set_option maxHeartbeats 8000000 in
theorem c_X1_isCounted {l : Launch} {G : GG}  {M : Mem} {h : Int64}  {P9 : Bool → Prop} (hf : OB (f_X1_isCounted M) P9) : Met1 l yX1_isCounted cX1_isCounted 1 (some .boolean) rm_X1_isCounted G [.ref (xa G 9)] M h (QZ0 G M h P9) := by
  unfold f_X1_isCounted at hf
  refine xm_z0 (by decide) (Nat.le_of_ble_eq_true rfl) ?_
  intro p e s m args below meth c ls Q C hE hret hP hS hl
  have C : CallFix p m c cX1_isCounted 1 s args TB RX1 := C
  have hx := C.1
  have hb := C.2.1
  have hl : lv_has ls 1 [(0, .ref (xa G 9))] := hl
  refine lv_aload_n hx hb dX1_isCounted_0 rfl (lv_at hl 0 rfl) ?_
  refine gfX1_19 C hE hP dX1_isCounted_1 ?_
  refine lv_aload_n hx hb dX1_isCounted_4 rfl (lv_at hl 0 rfl) ?_
  refine gfX1_15 C hE hP dX1_isCounted_5 ?_
  refine lv_iadd hx hb dX1_isCounted_8 ?_
  refine lv_iconst (v := 1) hx hb dX1_isCounted_9 (by decide) ?_
  refine xj (fun (x1 : Bool) => ∀ (H : Heap) (locs : List Loc) (ls : Array Slot), va_P G.1 vwCl (wl G M h) H → va_S (Aw G) s.heap H locs → lv_has ls 1 [] → W p l e rm_X1_isCounted s m args below meth c H locs 0 0 Q (F0 m 18 ls [.int (bI x1)])) hf ?_ (fun hf => ?_)
  · rintro x1 hf H locs ls hP hS hl
    exact hret _ _ _ _ _ (OB_some hf) hP hS dX1_isCounted_18
  · skip
    refine lv_icmp_lt (tgt := 17) hx hb dX1_isCounted_10 (by decide) (fun hc => ?_) (fun hc => ?_)
    · have hf := (OB_t hf hc)
      refine lv_iconst (v := 0) hx hb dX1_isCounted_17 (by decide) ?_
      refine W.eq (g2 := F0 m 18 ls [.int (bI false)]) rfl ?_
      exact (OB_some hf) _ _ _ hP hS (lv_sub hl [] rfl)
    · have hf := (OB_f hf hc)
      refine lv_iconst (v := 1) hx hb dX1_isCounted_13 (by decide) ?_
      refine lv_goto (tgt := 18) hx hb dX1_isCounted_14 (by decide) ?_
      refine W.eq (g2 := F0 m 18 ls [.int (bI true)]) rfl ?_
      exact (OB_some hf) _ _ _ hP hS (lv_sub hl [] rfl)
def rm_X1_take : Room := { frames := 1, cells := 0, slots := 0, locals := 20 }
set_option maxRecDepth 100000 in
set_option maxHeartbeats 8000000 in
theorem c_X1_take {l : Launch} {G : GG} {a1 : Int32} {a2 : Int32} {a3 : Int32} {M : Mem} {h : Int64}  {P9 : Mem → Prop} (hf : OB (f_X1_take a1 a2 a3 M) P9) : Met1 l yX1_take cX1_take 5 none rm_X1_take G [.ref (xa G 9), .int a1, .int a2, .int a3] M h (QV1 G h P9) := by
  unfold f_X1_take at hf
  refine xm_v1 (by decide) (Nat.le_of_ble_eq_true rfl) ?_
  intro p e s m args below meth c ls Q C hE hret hP hS hl
  have C : CallFix p m c cX1_take 5 s args TB RX1 := C
  have hx := C.1
  have hb := C.2.1
  have hl : lv_has ls 5 [(0, .ref (xa G 9)), (1, .int a1), (2, .int a2), (3, .int a3)] := hl
  refine lv_aload_n hx hb dX1_take_0 rfl (lv_at hl 0 rfl) ?_
  refine x_ci0 (rest := []) (x_runV C hE hP hS ykX1_price lkX1_78 sh9 rfl (c_X1_price (OB_bind hf)) (by decide) rfl hl.1 (Nat.le_of_ble_eq_true rfl) dX1_take_1) hS (fun r1 H locs hf hP hS => ?_)
  refine lv_istore (lv' := [(4, .int r1), (0, .ref (xa G 9)), (1, .int a1), (2, .int a2), (3, .int a3)]) hx hb dX1_take_4 hl (by decide) rfl (fun ls hl => ?_)
  refine lv_aload_n hx hb dX1_take_6 rfl (lv_at hl 1 rfl) ?_
  refine gfX1_53 C hE hP dX1_take_7 ?_
  refine xj (fun (M2 : Mem) => ∀ (H : Heap) (locs : List Loc) (ls : Array Slot), va_P G.1 vwCl (wl G M2 h) H → va_S (Aw G) s.heap H locs → lv_has ls 5 [(0, .ref (xa G 9)), (3, .int a3), (4, .int r1)] → W p l e rm_X1_take s m args below meth c H locs 0 0 Q (F0 m 38 ls [])) hf ?_ (fun hf => ?_)
  · rintro M2 hf H locs ls hP hS hl
    refine lv_aload_n hx hb dX1_take_38 rfl (lv_at hl 0 rfl) ?_
    refine lv_dup hx hb dX1_take_39 rfl ?_
    refine gfX1_53 C hE hP dX1_take_40 ?_
    refine lv_iconst (v := 1) hx hb dX1_take_43 (by decide) ?_
    refine lv_iadd hx hb dX1_take_44 ?_
    refine pfX1_53 C hE hP hS dX1_take_45 (fun H locs hP hS => ?_)
    refine lv_iload hx hb dX1_take_48 (lv_at hl 2 rfl) ?_
    refine lv_iload_n hx hb dX1_take_50 rfl (lv_at hl 1 rfl) ?_
    refine xj (fun (M3 : Mem) => ∀ (H : Heap) (locs : List Loc) (ls : Array Slot), va_P G.1 vwCl (wl G M3 h) H → va_S (Aw G) s.heap H locs → lv_has ls 5 [] → W p l e rm_X1_take s m args below meth c H locs 0 0 Q (F0 m 64 ls [])) hf ?_ (fun hf => ?_)
    · rintro M3 hf H locs ls hP hS hl
      exact hret _ _ _ _ _ (OB_some hf) hP hS dX1_take_64
    · skip
      refine lv_icmp_gt (tgt := 64) hx hb dX1_take_51 (by decide) (fun hc => ?_) (fun hc => ?_)
      · have hf := (OB_t hf hc)
        exact (OB_some hf) _ _ _ hP hS (lv_sub hl [] rfl)
      · have hf := (OB_f hf hc)
        refine lv_aload_n hx hb dX1_take_54 rfl (lv_at hl 0 rfl) ?_
        refine lv_dup hx hb dX1_take_55 rfl ?_
        refine gfX1_56 C hE hP dX1_take_56 ?_
        refine lv_iconst (v := 1) hx hb dX1_take_59 (by decide) ?_
        refine lv_iadd hx hb dX1_take_60 ?_
        refine pfX1_56 C hE hP hS dX1_take_61 (fun H locs hP hS => ?_)
        exact (OB_some hf) _ _ _ hP hS (lv_sub hl [] rfl)
  · skip
    refine lv_if_eq (tgt := 22) hx hb dX1_take_10 (by decide) (fun hc => ?_) (fun hc => ?_)
    · have hf := (OB_t hf hc)
      refine lv_aload_n hx hb dX1_take_22 rfl (lv_at hl 1 rfl) ?_
      refine lv_iload hx hb dX1_take_23 (lv_at hl 0 rfl) ?_
      refine pfX1_82 C hE hP hS dX1_take_25 (fun H locs hP hS => ?_)
      refine lv_aload_n hx hb dX1_take_28 rfl (lv_at hl 1 rfl) ?_
      refine lv_iload_n hx hb dX1_take_29 rfl (lv_at hl 2 rfl) ?_
      refine pfX1_85 C hE hP hS dX1_take_30 (fun H locs hP hS => ?_)
      refine lv_aload_n hx hb dX1_take_33 rfl (lv_at hl 1 rfl) ?_
      refine lv_iload_n hx hb dX1_take_34 rfl (lv_at hl 3 rfl) ?_
      refine pfX1_88 C hE hP hS dX1_take_35 (fun H locs hP hS => ?_)
      exact (OB_some hf) _ _ _ hP hS (lv_sub hl [1, 4, 0] rfl)
    · have hf := (OB_f hf hc)
      refine lv_iload hx hb dX1_take_13 (lv_at hl 0 rfl) ?_
      refine lv_aload_n hx hb dX1_take_15 rfl (lv_at hl 1 rfl) ?_
      refine gfX1_82 C hE hP dX1_take_16 ?_
      refine lv_icmp_ge (tgt := 38) hx hb dX1_take_19 (by decide) (fun hc => ?_) (fun hc => ?_)
      · have hf := (OB_t hf hc)
        exact (OB_some hf) _ _ _ hP hS (lv_sub hl [1, 4, 0] rfl)
      · have hf := (OB_f hf hc)
        refine lv_aload_n hx hb dX1_take_22 rfl (lv_at hl 1 rfl) ?_
        refine lv_iload hx hb dX1_take_23 (lv_at hl 0 rfl) ?_
        refine pfX1_82 C hE hP hS dX1_take_25 (fun H locs hP hS => ?_)
        refine lv_aload_n hx hb dX1_take_28 rfl (lv_at hl 1 rfl) ?_
        refine lv_iload_n hx hb dX1_take_29 rfl (lv_at hl 2 rfl) ?_
        refine pfX1_85 C hE hP hS dX1_take_30 (fun H locs hP hS => ?_)
        refine lv_aload_n hx hb dX1_take_33 rfl (lv_at hl 1 rfl) ?_
        refine lv_iload_n hx hb dX1_take_34 rfl (lv_at hl 3 rfl) ?_
        refine pfX1_88 C hE hP hS dX1_take_35 (fun H locs hP hS => ?_)
        exact (OB_some hf) _ _ _ hP hS (lv_sub hl [1, 4, 0] rfl)
def rm_X1_surveyRing : Room := { frames := 3, cells := 0, slots := 0, locals := 75 }
set_option maxRecDepth 100000 in
set_option maxHeartbeats 8000000 in
theorem c_X1_surveyRing {l : Launch} {G : GG} {a1 : Int32} {a2 : Int32} {a3 : Int32} {a4 : Int32} {M : Mem} {h : Int64}  {P9 : Mem → Prop} (hf : OB (f_X1_surveyRing a1 a2 a3 a4 M) P9) : Met1 l yX1_surveyRing cX1_surveyRing 6 none rm_X1_surveyRing G [.ref (xa G 9), .int a1, .int a2, .int a3, .int a4] M h (QV1 G h P9) := by
  unfold f_X1_surveyRing at hf
  refine xm_v1 (by decide) (Nat.le_of_ble_eq_true rfl) ?_
  intro p e s m args below meth c ls Q C hE hret hP hS hl
  have C : CallFix p m c cX1_surveyRing 6 s args TB RX1 := C
  have hx := C.1
  have hb := C.2.1
  have hl : lv_has ls 6 [(0, .ref (xa G 9)), (1, .int a1), (2, .int a2), (3, .int a3), (4, .int a4)] := hl
  refine lv_iconst (v := 0) hx hb dX1_surveyRing_0 (by decide) ?_
  refine lv_istore (lv' := [(5, .int 0), (0, .ref (xa G 9)), (1, .int a1), (2, .int a2), (3, .int a3), (4, .int a4)]) hx hb dX1_surveyRing_1 hl (by decide) rfl (fun ls hl => ?_)
  refine xj (fun (M19 : Mem) => ∀ (H : Heap) (locs : List Loc) (ls : Array Slot), va_P G.1 vwCl (wl G M19 h) H → va_S (Aw G) s.heap H locs → lv_has ls 6 [] → W p l e rm_X1_surveyRing s m args below meth c H locs 0 0 Q (F0 m 41 ls [])) hf ?_ (fun hf => ?_)
  · rintro M19 hf H locs ls hP hS hl
    exact hret _ _ _ _ _ (OB_some hf) hP hS dX1_surveyRing_41
  · refine (it_W (fun (zz : (Int32 × Mem)) => match zz with | (x17, M18) => ∀ (H : Heap) (locs : List Loc) (ls : Array Slot), va_P G.1 vwCl (wl G M18 h) H → va_S (Aw G) s.heap H locs → lv_has ls 6 [(0, .ref (xa G 9)), (1, .int a1), (2, .int a2), (3, .int a3), (4, .int a4), (5, .int x17)] → W p l e rm_X1_surveyRing s m args below meth c H locs 0 0 Q (F0 m 3 ls [])) hf ?_) _ _ _ hP hS (lv_sub hl [1, 2, 3, 4, 5, 0] rfl)
    rintro ⟨x17, M18⟩ hf H locs ls hP hS hl
    unfold f_X1_surveyRing_b3 at hf
    refine lv_iload hx hb dX1_surveyRing_3 (lv_at hl 5 rfl) ?_
    refine lv_bipush (v := 16) hx hb dX1_surveyRing_5 (by decide) ?_
    refine lv_icmp_ge (tgt := 41) hx hb dX1_surveyRing_7 (by decide) (fun hc => ?_) (fun hc => ?_)
    · have hf := (OB_t hf hc)
      exact (it_e hf) _ _ _ hP hS (lv_sub hl [] rfl)
    · have hf := (OB_f hf hc)
      refine lv_aload_n hx hb dX1_surveyRing_10 rfl (lv_at hl 0 rfl) ?_
      refine lv_iload_n hx hb dX1_surveyRing_11 rfl (lv_at hl 1 rfl) ?_
      refine lv_iload_n hx hb dX1_surveyRing_12 rfl (lv_at hl 2 rfl) ?_
      refine lv_iload_n hx hb dX1_surveyRing_13 rfl (lv_at hl 3 rfl) ?_
      refine lv_iload hx hb dX1_surveyRing_14 (lv_at hl 5 rfl) ?_
      refine x_cv1 (rest := []) (x_runV C hE hP hS ykX1_look lkX1_67 sh9 rfl (c_X1_look (OB_bind hf)) (by decide) rfl hl.1 (Nat.le_of_ble_eq_true rfl) dX1_surveyRing_16) hS (fun M20 H locs hf hP hS => ?_)
      refine lv_aload_n hx hb dX1_surveyRing_19 rfl (lv_at hl 0 rfl) ?_
      refine x_cz0 (rest := []) (x_runV C hE hP hS ykX1_isCounted lkX1_70 sh9 rfl (c_X1_isCounted (OB_bind hf)) (by decide) rfl hl.1 (Nat.le_of_ble_eq_true rfl) dX1_surveyRing_20) hS (fun r21 H locs hf hP hS => ?_)
      refine xj (fun (M24 : Mem) => ∀ (H : Heap) (locs : List Loc) (ls : Array Slot), va_P G.1 vwCl (wl G M24 h) H → va_S (Aw G) s.heap H locs → lv_has ls 6 [(0, .ref (xa G 9)), (1, .int a1), (2, .int a2), (3, .int a3), (4, .int a4), (5, .int x17)] → W p l e rm_X1_surveyRing s m args below meth c H locs 0 0 Q (F0 m 35 ls [])) hf ?_ (fun hf => ?_)
      · rintro M24 hf H locs ls hP hS hl
        refine lv_iinc (v := (x17 + 1)) (lv' := [(5, .int (x17 + 1)), (0, .ref (xa G 9)), (1, .int a1), (2, .int a2), (3, .int a3), (4, .int a4)]) hx hb dX1_surveyRing_35 hl (k := 5) rfl rfl (by decide) rfl (fun ls hl => ?_)
        refine lv_goto (tgt := 3) hx hb dX1_surveyRing_38 (by decide) ?_
        exact (it_c hf) _ _ _ hP hS (lv_sub hl [1, 2, 3, 4, 5, 0] rfl)
      · skip
        refine lv_if_eq (tgt := 35) hx hb dX1_surveyRing_23 (by decide) (fun hc => ?_) (fun hc => ?_)
        · have hf := (OB_f hf (bI_f hc))
          exact (OB_some hf) _ _ _ hP hS (lv_sub hl [0, 1, 2, 3, 4, 5] rfl)
        · have hf := (OB_t hf (bI_t hc))
          refine lv_aload_n hx hb dX1_surveyRing_26 rfl (lv_at hl 0 rfl) ?_
          refine lv_iload_n hx hb dX1_surveyRing_27 rfl (lv_at hl 3 rfl) ?_
          refine lv_iload hx hb dX1_surveyRing_28 (lv_at hl 5 rfl) ?_
          refine lv_iload hx hb dX1_surveyRing_30 (lv_at hl 4 rfl) ?_
          refine x_cv1 (rest := []) (x_runV C hE hP hS ykX1_take lkX1_74 sh9 rfl (c_X1_take (OB_bind hf)) (by decide) rfl hl.1 (Nat.le_of_ble_eq_true rfl) dX1_surveyRing_32) hS (fun M25 H locs hf hP hS => ?_)
          exact (OB_some hf) _ _ _ hP hS (lv_sub hl [0, 1, 2, 3, 4, 5] rfl)
def rm_X11_within : Room := { frames := 0, cells := 0, slots := 0, locals := 0 }
set_option maxRecDepth 100000 in
set_option maxHeartbeats 8000000 in
theorem c_X11_within {l : Launch} {G : GG} {a0 : Int32} {a1 : Int32} {M : Mem} {h : Int64}  {P9 : Bool → Prop} (hf : OB (f_X11_within a0 a1) P9) : Met1 l yX11_within cX11_within 2 (some .boolean) rm_X11_within G [.int a0, .int a1] M h (QZ0 G M h P9) := by
  unfold f_X11_within at hf
  refine xm_z0 (by decide) (Nat.le_of_ble_eq_true rfl) ?_
  intro p e s m args below meth c ls Q C hE hret hP hS hl
  have C : CallFix p m c cX11_within 2 s args TB RX11 := C
  have hx := C.1
  have hb := C.2.1
  have hl : lv_has ls 2 [(0, .int a0), (1, .int a1)] := hl
  refine lv_iload_n hx hb dX11_within_0 rfl (lv_at hl 0 rfl) ?_
  refine xj (fun (x1 : Bool) => ∀ (H : Heap) (locs : List Loc) (ls : Array Slot), va_P G.1 vwCl (wl G M h) H → va_S (Aw G) s.heap H locs → lv_has ls 2 [] → W p l e rm_X11_within s m args below meth c H locs 0 0 Q (F0 m 14 ls [.int (bI x1)])) hf ?_ (fun hf => ?_)
  · rintro x1 hf H locs ls hP hS hl
    exact hret _ _ _ _ _ (OB_some hf) hP hS dX11_within_14
  · skip
    refine lv_if_lt (tgt := 13) hx hb dX11_within_1 (by decide) (fun hc => ?_) (fun hc => ?_)
    · have hf := (OB_t hf hc)
      refine lv_iconst (v := 0) hx hb dX11_within_13 (by decide) ?_
      refine W.eq (g2 := F0 m 14 ls [.int (bI false)]) rfl ?_
      exact (OB_some hf) _ _ _ hP hS (lv_sub hl [] rfl)
    · have hf := (OB_f hf hc)
      refine lv_iload_n hx hb dX11_within_4 rfl (lv_at hl 0 rfl) ?_
      refine lv_iload_n hx hb dX11_within_5 rfl (lv_at hl 1 rfl) ?_
      refine lv_icmp_ge (tgt := 13) hx hb dX11_within_6 (by decide) (fun hc => ?_) (fun hc => ?_)
      · have hf := (OB_t hf hc)
        refine lv_iconst (v := 0) hx hb dX11_within_13 (by decide) ?_
        refine W.eq (g2 := F0 m 14 ls [.int (bI false)]) rfl ?_
        exact (OB_some hf) _ _ _ hP hS (lv_sub hl [] rfl)
      · have hf := (OB_f hf hc)
        refine lv_iconst (v := 1) hx hb dX11_within_9 (by decide) ?_
        refine lv_goto (tgt := 14) hx hb dX11_within_10 (by decide) ?_
        refine W.eq (g2 := F0 m 14 ls [.int (bI true)]) rfl ?_
        exact (OB_some hf) _ _ _ hP hS (lv_sub hl [] rfl)
def rm_X2_staysInRows : Room := { frames := 1, cells := 0, slots := 0, locals := 22 }
set_option maxRecDepth 100000 in
set_option maxHeartbeats 8000000 in
theorem c_X2_staysInRows {l : Launch} {G : GG} {a1 : Int32} {a2 : Int32} {M : Mem} {h : Int64}  {P9 : Bool → Prop} (hf : OB (f_X2_staysInRows a1 a2 M) P9) : Met1 l yX2_staysInRows cX2_staysInRows 4 (some .boolean) rm_X2_staysInRows G [.ref (xa G 1), .int a1, .int a2] M h (QZ0 G M h P9) := by
  unfold f_X2_staysInRows at hf
  refine xm_z0 (by decide) (Nat.le_of_ble_eq_true rfl) ?_
  intro p e s m args below meth c ls Q C hE hret hP hS hl
  have C : CallFix p m c cX2_staysInRows 4 s args TB RX2 := C
  have hx := C.1
  have hb := C.2.1
  have hl : lv_has ls 4 [(0, .ref (xa G 1)), (1, .int a1), (2, .int a2)] := hl
  refine lv_iconst (v := 0) hx hb dX2_staysInRows_0 (by decide) ?_
  refine lv_istore_n (lv' := [(3, .int 0), (0, .ref (xa G 1)), (1, .int a1), (2, .int a2)]) hx hb dX2_staysInRows_1 rfl hl (by decide) rfl (fun ls hl => ?_)
  refine xj (it_P (fun (_ : Unit) => ∀ (H : Heap) (locs : List Loc) (ls : Array Slot), va_P G.1 vwCl (wl G M h) H → va_S (Aw G) s.heap H locs → lv_has ls 4 [] → W p l e rm_X2_staysInRows s m args below meth c H locs 0 0 Q (F0 m 36 ls [])) P9) hf ?_ (fun hf => ?_)
  · rintro (_ | v) hf
    · intro H locs ls hP hS hl
      refine lv_iconst (v := 1) hx hb dX2_staysInRows_36 (by decide) ?_
      refine W.eq (g2 := F0 m 37 ls [.int (bI true)]) rfl ?_
      exact hret _ _ _ _ _ (OB_some hf) hP hS dX2_staysInRows_37
    · exact it_q hf
  · refine (it_W (fun (x7 : Int32) => ∀ (H : Heap) (locs : List Loc) (ls : Array Slot), va_P G.1 vwCl (wl G M h) H → va_S (Aw G) s.heap H locs → lv_has ls 4 [(0, .ref (xa G 1)), (1, .int a1), (2, .int a2), (3, .int x7)] → W p l e rm_X2_staysInRows s m args below meth c H locs 0 0 Q (F0 m 2 ls [])) hf ?_) _ _ _ hP hS (lv_sub hl [1, 2, 3, 0] rfl)
    rintro x7 hf H locs ls hP hS hl
    unfold f_X2_staysInRows_b2 at hf
    refine lv_iload_n hx hb dX2_staysInRows_2 rfl (lv_at hl 3 rfl) ?_
    refine lv_bipush (v := 8) hx hb dX2_staysInRows_3 (by decide) ?_
    refine lv_icmp_ge (tgt := 36) hx hb dX2_staysInRows_5 (by decide) (fun hc => ?_) (fun hc => ?_)
    · have hf := (OB_t hf hc)
      exact (it_e hf) _ _ _ hP hS (lv_sub hl [] rfl)
    · have hf := (OB_f hf hc)
      refine lv_aload_n hx hb dX2_staysInRows_8 rfl (lv_at hl 0 rfl) ?_
      refine lv_iload_n hx hb dX2_staysInRows_9 rfl (lv_at hl 1 rfl) ?_
      refine lv_iload_n hx hb dX2_staysInRows_10 rfl (lv_at hl 3 rfl) ?_
      refine x_ci0 (rest := []) (x_runV C hE hP hS ykX2_maskOf lkX2_35 sh1 rfl (c_X2_maskOf (OB_bind hf)) (by decide) rfl hl.1 (Nat.le_of_ble_eq_true rfl) dX2_staysInRows_11) hS (fun r8 H locs hf hP hS => ?_)
      refine lv_if_eq (tgt := 30) hx hb dX2_staysInRows_14 (by decide) (fun hc => ?_) (fun hc => ?_)
      · have hf := (OB_t hf hc)
        refine lv_iinc (v := (x7 + 1)) (lv' := [(3, .int (x7 + 1)), (0, .ref (xa G 1)), (1, .int a1), (2, .int a2)]) hx hb dX2_staysInRows_30 hl (k := 3) rfl rfl (by decide) rfl (fun ls hl => ?_)
        refine lv_goto (tgt := 2) hx hb dX2_staysInRows_33 (by decide) ?_
        exact (it_c hf) _ _ _ hP hS (lv_sub hl [1, 2, 3, 0] rfl)
      · have hf := (OB_f hf hc)
        refine lv_iload_n hx hb dX2_staysInRows_17 rfl (lv_at hl 3 rfl) ?_
        refine lv_iload_n hx hb dX2_staysInRows_18 rfl (lv_at hl 2 rfl) ?_
        refine lv_iadd hx hb dX2_staysInRows_19 ?_
        refine lv_bipush (v := 8) hx hb dX2_staysInRows_20 (by decide) ?_
        refine x_cz0 (rest := []) (x_runSN C hE hP hS ykX11_within lkX2_50 (c_X11_within (OB_bind hf)) (by decide) rfl hl.1 (Nat.le_of_ble_eq_true rfl) dX2_staysInRows_22) hS (fun r9 H locs hf hP hS => ?_)
        refine lv_if_ne (tgt := 30) hx hb dX2_staysInRows_25 (by decide) (fun hc => ?_) (fun hc => ?_)
        · have hf := (OB_t hf (bI_t hc))
          refine lv_iinc (v := (x7 + 1)) (lv' := [(3, .int (x7 + 1)), (0, .ref (xa G 1)), (1, .int a1), (2, .int a2)]) hx hb dX2_staysInRows_30 hl (k := 3) rfl rfl (by decide) rfl (fun ls hl => ?_)
          refine lv_goto (tgt := 2) hx hb dX2_staysInRows_33 (by decide) ?_
          exact (it_c hf) _ _ _ hP hS (lv_sub hl [1, 2, 3, 0] rfl)
        · have hf := (OB_f hf (bI_f hc))
          refine lv_iconst (v := 0) hx hb dX2_staysInRows_28 (by decide) ?_
          refine W.eq (g2 := F0 m 29 ls [.int (bI false)]) rfl ?_
          exact hret _ _ _ _ _ (it_r hf) hP hS dX2_staysInRows_29
def rm_X1_survey : Room := { frames := 4, cells := 0, slots := 0, locals := 100 }
set_option maxRecDepth 100000 in
set_option maxHeartbeats 8000000 in
theorem c_X1_survey {l : Launch} {G : GG} {a1 : Int32} {a2 : Int32} {a3 : Int32} {M : Mem} {h : Int64}  {P9 : Mem → Prop} (hf : OB (f_X1_survey a1 a2 a3 M) P9) : Met1 l yX1_survey cX1_survey 5 none rm_X1_survey G [.ref (xa G 9), .int a1, .int a2, .int a3] M h (QV1 G h P9) := by
  unfold f_X1_survey at hf
  refine xm_v1 (by decide) (Nat.le_of_ble_eq_true rfl) ?_
  intro p e s m args below meth c ls Q C hE hret hP hS hl
  have C : CallFix p m c cX1_survey 5 s args TB RX1 := C
  have hx := C.1
  have hb := C.2.1
  have hl : lv_has ls 5 [(0, .ref (xa G 9)), (1, .int a1), (2, .int a2), (3, .int a3)] := hl
  refine lv_aload_n hx hb dX1_survey_0 rfl (lv_at hl 0 rfl) ?_
  refine lv_iconst (v := 0) hx hb dX1_survey_1 (by decide) ?_
  refine pfX1_53 C hE hP hS dX1_survey_2 (fun H locs hP hS => ?_)
  refine lv_aload_n hx hb dX1_survey_5 rfl (lv_at hl 0 rfl) ?_
  refine lv_iconst (v := 0) hx hb dX1_survey_6 (by decide) ?_
  refine pfX1_56 C hE hP hS dX1_survey_7 (fun H locs hP hS => ?_)
  refine lv_bipush (v := -7) hx hb dX1_survey_10 (by decide) ?_
  refine lv_istore (lv' := [(4, .int (-7)), (0, .ref (xa G 9)), (1, .int a1), (2, .int a2), (3, .int a3)]) hx hb dX1_survey_12 hl (by decide) rfl (fun ls hl => ?_)
  refine xj (fun (M10 : Mem) => ∀ (H : Heap) (locs : List Loc) (ls : Array Slot), va_P G.1 vwCl (wl G M10 h) H → va_S (Aw G) s.heap H locs → lv_has ls 5 [] → W p l e rm_X1_survey s m args below meth c H locs 0 0 Q (F0 m 49 ls [])) hf ?_ (fun hf => ?_)
  · rintro M10 hf H locs ls hP hS hl
    exact hret _ _ _ _ _ (OB_some hf) hP hS dX1_survey_49
  · refine (it_W (fun (zz : (Int32 × Mem)) => match zz with | (x8, M9) => ∀ (H : Heap) (locs : List Loc) (ls : Array Slot), va_P G.1 vwCl (wl G M9 h) H → va_S (Aw G) s.heap H locs → lv_has ls 5 [(0, .ref (xa G 9)), (1, .int a1), (2, .int a2), (3, .int a3), (4, .int x8)] → W p l e rm_X1_survey s m args below meth c H locs 0 0 Q (F0 m 14 ls [])) hf ?_) _ _ _ hP hS (lv_sub hl [1, 2, 3, 4, 0] rfl)
    rintro ⟨x8, M9⟩ hf H locs ls hP hS hl
    unfold f_X1_survey_b14 at hf
    refine lv_iload hx hb dX1_survey_14 (lv_at hl 4 rfl) ?_
    refine lv_bipush (v := 7) hx hb dX1_survey_16 (by decide) ?_
    refine lv_icmp_gt (tgt := 49) hx hb dX1_survey_18 (by decide) (fun hc => ?_) (fun hc => ?_)
    · have hf := (OB_t hf hc)
      exact (it_e hf) _ _ _ hP hS (lv_sub hl [] rfl)
    · have hf := (OB_f hf hc)
      refine lv_aload_n hx hb dX1_survey_21 rfl (lv_at hl 0 rfl) ?_
      refine gfX1_9 C hE hP dX1_survey_22 ?_
      refine lv_iload_n hx hb dX1_survey_25 rfl (lv_at hl 2 rfl) ?_
      refine lv_iload hx hb dX1_survey_26 (lv_at hl 4 rfl) ?_
      refine x_cz0 (rest := []) (x_runV C hE hP hS ykX2_staysInRows lkX1_59 sh1 rfl (c_X2_staysInRows (OB_bind hf)) (by decide) rfl hl.1 (Nat.le_of_ble_eq_true rfl) dX1_survey_28) hS (fun r11 H locs hf hP hS => ?_)
      refine xj (fun (M14 : Mem) => ∀ (H : Heap) (locs : List Loc) (ls : Array Slot), va_P G.1 vwCl (wl G M14 h) H → va_S (Aw G) s.heap H locs → lv_has ls 5 [(0, .ref (xa G 9)), (1, .int a1), (2, .int a2), (3, .int a3), (4, .int x8)] → W p l e rm_X1_survey s m args below meth c H locs 0 0 Q (F0 m 43 ls [])) hf ?_ (fun hf => ?_)
      · rintro M14 hf H locs ls hP hS hl
        refine lv_iinc (v := (x8 + 1)) (lv' := [(4, .int (x8 + 1)), (0, .ref (xa G 9)), (1, .int a1), (2, .int a2), (3, .int a3)]) hx hb dX1_survey_43 hl (k := 4) rfl rfl (by decide) rfl (fun ls hl => ?_)
        refine lv_goto (tgt := 14) hx hb dX1_survey_46 (by decide) ?_
        exact (it_c hf) _ _ _ hP hS (lv_sub hl [1, 2, 3, 4, 0] rfl)
      · skip
        refine lv_if_eq (tgt := 43) hx hb dX1_survey_31 (by decide) (fun hc => ?_) (fun hc => ?_)
        · have hf := (OB_f hf (bI_f hc))
          exact (OB_some hf) _ _ _ hP hS (lv_sub hl [0, 1, 2, 3, 4] rfl)
        · have hf := (OB_t hf (bI_t hc))
          refine lv_aload_n hx hb dX1_survey_34 rfl (lv_at hl 0 rfl) ?_
          refine lv_iload_n hx hb dX1_survey_35 rfl (lv_at hl 1 rfl) ?_
          refine lv_iload_n hx hb dX1_survey_36 rfl (lv_at hl 2 rfl) ?_
          refine lv_iload hx hb dX1_survey_37 (lv_at hl 4 rfl) ?_
          refine lv_iload_n hx hb dX1_survey_39 rfl (lv_at hl 3 rfl) ?_
          refine x_cv1 (rest := []) (x_runV C hE hP hS ykX1_surveyRing lkX1_63 sh9 rfl (c_X1_surveyRing (OB_bind hf)) (by decide) rfl hl.1 (Nat.le_of_ble_eq_true rfl) dX1_survey_40) hS (fun M15 H locs hf hP hS => ?_)
          exact (OB_some hf) _ _ _ hP hS (lv_sub hl [0, 1, 2, 3, 4] rfl)
def rm_X2_ownerOf : Room := { frames := 0, cells := 0, slots := 0, locals := 0 }
set_option maxRecDepth 100000 in
set_option maxHeartbeats 8000000 in
theorem c_X2_ownerOf {l : Launch} {G : GG} {a1 : Int32} {M : Mem} {h : Int64}  {P9 : Int32 → Prop} (hf : OB (f_X2_ownerOf a1 M) P9) : Met1 l yX2_ownerOf cX2_ownerOf 2 (some .int) rm_X2_ownerOf G [.ref (xa G 1), .int a1] M h (QI0 G M h P9) := by
  unfold f_X2_ownerOf at hf
  refine xm_i0 (by decide) (Nat.le_of_ble_eq_true rfl) ?_
  intro p e s m args below meth c ls Q C hE hret hP hS hl
  have C : CallFix p m c cX2_ownerOf 2 s args TB RX2 := C
  have hx := C.1
  have hb := C.2.1
  have hl : lv_has ls 2 [(0, .ref (xa G 1)), (1, .int a1)] := hl
  refine lv_aload_n hx hb dX2_ownerOf_0 rfl (lv_at hl 0 rfl) ?_
  refine gfX2_9 C hE hP dX2_ownerOf_1 ?_
  refine lv_iload_n hx hb dX2_ownerOf_4 rfl (lv_at hl 1 rfl) ?_
  obtain ⟨g1, hf⟩ := OB_g hf
  refine x_iald C hE hP sh2 g1 dX2_ownerOf_5 ?_
  exact hret _ _ _ _ _ (OB_some hf) hP hS dX2_ownerOf_6
def rm_X2_give : Room := { frames := 1, cells := 0, slots := 0, locals := 23 }
set_option maxRecDepth 100000 in
set_option maxHeartbeats 8000000 in
theorem c_X2_give {l : Launch} {G : GG} {a1 : Int32} {a2 : Int32} {M : Mem} {h : Int64}  {P9 : Mem → Prop} (hf : OB (f_X2_give a1 a2 M) P9) : Met1 l yX2_give cX2_give 5 none rm_X2_give G [.ref (xa G 1), .int a1, .int a2] M h (QV1 G h P9) := by
  unfold f_X2_give at hf
  refine xm_v1 (by decide) (Nat.le_of_ble_eq_true rfl) ?_
  intro p e s m args below meth c ls Q C hE hret hP hS hl
  have C : CallFix p m c cX2_give 5 s args TB RX2 := C
  have hx := C.1
  have hb := C.2.1
  have hl : lv_has ls 5 [(0, .ref (xa G 1)), (1, .int a1), (2, .int a2)] := hl
  refine lv_iload_n hx hb dX2_give_0 rfl (lv_at hl 1 rfl) ?_
  refine lv_bipush (v := 16) hx hb dX2_give_1 (by decide) ?_
  refine lv_idiv hx hb dX2_give_3 (by decide) ?_
  refine lv_istore_n (lv' := [(3, .int (a1 / 16)), (0, .ref (xa G 1)), (1, .int a1), (2, .int a2)]) hx hb dX2_give_4 rfl hl (by decide) rfl (fun ls hl => ?_)
  refine lv_iconst (v := 1) hx hb dX2_give_5 (by decide) ?_
  refine lv_iload_n hx hb dX2_give_6 rfl (lv_at hl 2 rfl) ?_
  refine lv_bipush (v := 16) hx hb dX2_give_7 (by decide) ?_
  refine x_irem C dX2_give_9 (by decide) ?_
  refine x_ishl C dX2_give_10 ?_
  refine lv_istore (lv' := [(4, .int (jshl 1 (jrem a1 16))), (3, .int (a1 / 16)), (0, .ref (xa G 1)), (1, .int a1), (2, .int a2)]) hx hb dX2_give_11 hl (by decide) rfl (fun ls hl => ?_)
  refine lv_aload_n hx hb dX2_give_13 rfl (lv_at hl 2 rfl) ?_
  refine gfX2_9 C hE hP dX2_give_14 ?_
  refine lv_iload_n hx hb dX2_give_17 rfl (lv_at hl 3 rfl) ?_
  obtain ⟨g1, hf⟩ := OB_g hf
  refine x_iald C hE hP sh2 g1 dX2_give_18 ?_
  refine lv_iconst (v := -1) hx hb dX2_give_19 (by decide) ?_
  refine xj (fun (M4 : Mem) => ∀ (H : Heap) (locs : List Loc) (ls : Array Slot), va_P G.1 vwCl (wl G M4 h) H → va_S (Aw G) s.heap H locs → lv_has ls 5 [(0, .ref (xa G 1)), (1, .int a1), (2, .int a2), (3, .int (a1 / 16)), (4, .int (jshl 1 (jrem a1 16)))] → W p l e rm_X2_give s m args below meth c H locs 0 0 Q (F0 m 46 ls [])) hf ?_ (fun hf => ?_)
  · rintro M4 hf H locs ls hP hS hl
    refine lv_iload_n hx hb dX2_give_46 rfl (lv_at hl 2 rfl) ?_
    refine lv_iconst (v := -1) hx hb dX2_give_47 (by decide) ?_
    refine xj (fun (M8 : Mem) => ∀ (H : Heap) (locs : List Loc) (ls : Array Slot), va_P G.1 vwCl (wl G M8 h) H → va_S (Aw G) s.heap H locs → lv_has ls 5 [(0, .ref (xa G 1)), (1, .int a1), (2, .int a2)] → W p l e rm_X2_give s m args below meth c H locs 0 0 Q (F0 m 67 ls [])) hf ?_ (fun hf => ?_)
    · rintro M8 hf H locs ls hP hS hl
      refine lv_aload_n hx hb dX2_give_67 rfl (lv_at hl 0 rfl) ?_
      refine gfX2_9 C hE hP dX2_give_68 ?_
      refine lv_iload_n hx hb dX2_give_71 rfl (lv_at hl 1 rfl) ?_
      refine lv_iload_n hx hb dX2_give_72 rfl (lv_at hl 2 rfl) ?_
      refine x_iast C hE hP hS sh2 g1 dX2_give_73 (fun H locs hP hS => ?_)
      refine lv_aload_n hx hb dX2_give_74 rfl (lv_at hl 0 rfl) ?_
      refine gfX2_18 C hE hP dX2_give_75 ?_
      refine lv_iconst (v := 0) hx hb dX2_give_78 (by decide) ?_
      refine x_fill C hE hP hS hl.1 lkX2_21 sh4 (by decide) (by decide) (Nat.le_of_ble_eq_true rfl) dX2_give_79 (fun H locs hP hS => ?_)
      exact hret _ _ _ _ _ (OB_some hf) hP hS dX2_give_82
    · skip
      refine lv_icmp_eq (tgt := 67) hx hb dX2_give_48 (by decide) (fun hc => ?_) (fun hc => ?_)
      · have hf := (OB_t hf hc)
        exact (OB_some hf) _ _ _ hP hS (lv_sub hl [0, 1, 2] rfl)
      · have hf := (OB_f hf hc)
        refine lv_aload_n hx hb dX2_give_51 rfl (lv_at hl 0 rfl) ?_
        refine gfX2_15 C hE hP dX2_give_52 ?_
        refine lv_iload_n hx hb dX2_give_55 rfl (lv_at hl 2 rfl) ?_
        refine lv_bipush (v := 8) hx hb dX2_give_56 (by decide) ?_
        refine lv_imul hx hb dX2_give_58 ?_
        refine lv_iload_n hx hb dX2_give_59 rfl (lv_at hl 3 rfl) ?_
        refine lv_iadd hx hb dX2_give_60 ?_
        refine lv_dup2_11 hx hb dX2_give_61 rfl rfl ?_
        obtain ⟨g9, hf⟩ := OB_g hf
        refine x_iald C hE hP sh3 g9 dX2_give_62 ?_
        refine lv_iload hx hb dX2_give_63 (lv_at hl 4 rfl) ?_
        refine lv_ior hx hb dX2_give_65 ?_
        refine x_iast C hE hP hS sh3 g9 dX2_give_66 (fun H locs hP hS => ?_)
        exact (OB_some hf) _ _ _ hP hS (lv_sub hl [0, 1, 2] rfl)
  · skip
    refine lv_icmp_eq (tgt := 46) hx hb dX2_give_20 (by decide) (fun hc => ?_) (fun hc => ?_)
    · have hf := (OB_t hf hc)
      exact (OB_some hf) _ _ _ hP hS (lv_sub hl [2, 3, 4, 1, 0] rfl)
    · have hf := (OB_f hf hc)
      refine lv_aload_n hx hb dX2_give_23 rfl (lv_at hl 2 rfl) ?_
      refine gfX2_15 C hE hP dX2_give_24 ?_
      refine lv_aload_n hx hb dX2_give_27 rfl (lv_at hl 2 rfl) ?_
      refine gfX2_9 C hE hP dX2_give_28 ?_
      refine lv_iload_n hx hb dX2_give_31 rfl (lv_at hl 3 rfl) ?_
      refine x_iald C hE hP sh2 g1 dX2_give_32 ?_
      refine lv_bipush (v := 8) hx hb dX2_give_33 (by decide) ?_
      refine lv_imul hx hb dX2_give_35 ?_
      refine lv_iload_n hx hb dX2_give_36 rfl (lv_at hl 1 rfl) ?_
      refine lv_iadd hx hb dX2_give_37 ?_
      refine lv_dup2_11 hx hb dX2_give_38 rfl rfl ?_
      obtain ⟨g5, hf⟩ := OB_g hf
      refine x_iald C hE hP sh3 g5 dX2_give_39 ?_
      refine lv_iload hx hb dX2_give_40 (lv_at hl 0 rfl) ?_
      refine lv_iconst (v := -1) hx hb dX2_give_42 (by decide) ?_
      refine lv_ixor hx hb dX2_give_43 ?_
      refine lv_iand hx hb dX2_give_44 ?_
      refine x_iast C hE hP hS sh3 g5 dX2_give_45 (fun H locs hP hS => ?_)
      exact (OB_some hf) _ _ _ hP hS (lv_sub hl [2, 3, 4, 1, 0] rfl)
def rm_X11_eastOf : Room := { frames := 0, cells := 0, slots := 0, locals := 0 }
set_option maxRecDepth 100000 in
set_option maxHeartbeats 8000000 in
theorem c_X11_eastOf {l : Launch} {G : GG} {a0 : Int32} {a1 : Int32} {M : Mem} {h : Int64}  {P9 : Int32 → Prop} (hf : OB (f_X11_eastOf a0 a1) P9) : Met1 l yX11_eastOf cX11_eastOf 2 (some .int) rm_X11_eastOf G [.int a0, .int a1] M h (QI0 G M h P9) := by
  unfold f_X11_eastOf at hf
  refine xm_i0 (by decide) (Nat.le_of_ble_eq_true rfl) ?_
  intro p e s m args below meth c ls Q C hE hret hP hS hl
  have C : CallFix p m c cX11_eastOf 2 s args TB RX11 := C
  have hx := C.1
  have hb := C.2.1
  have hl : lv_has ls 2 [(0, .int a0), (1, .int a1)] := hl
  refine lv_iload_n hx hb dX11_eastOf_0 rfl (lv_at hl 0 rfl) ?_
  refine lv_iload_n hx hb dX11_eastOf_1 rfl (lv_at hl 1 rfl) ?_
  refine lv_iadd hx hb dX11_eastOf_2 ?_
  refine lv_bipush (v := 15) hx hb dX11_eastOf_3 (by decide) ?_
  refine lv_iand hx hb dX11_eastOf_5 ?_
  exact hret _ _ _ _ _ (OB_some hf) hP hS dX11_eastOf_6
def rm_X2_giveRun : Room := { frames := 2, cells := 0, slots := 0, locals := 47 }
set_option maxRecDepth 100000 in
set_option maxHeartbeats 8000000 in
theorem c_X2_giveRun {l : Launch} {G : GG} {a1 : Int32} {a2 : Int32} {a3 : Int32} {a4 : Int32} {M : Mem} {h : Int64}  {P9 : (Int32 × Mem) → Prop} (hf : OB (f_X2_giveRun a1 a2 a3 a4 M) P9) : Met1 l yX2_giveRun cX2_giveRun 8 (some .int) rm_X2_giveRun G [.ref (xa G 1), .int a1, .int a2, .int a3, .int a4] M h (QI1 G h P9) := by
  unfold f_X2_giveRun at hf
  refine xm_i1 (by decide) (Nat.le_of_ble_eq_true rfl) ?_
  intro p e s m args below meth c ls Q C hE hret hP hS hl
  have C : CallFix p m c cX2_giveRun 8 s args TB RX2 := C
  have hx := C.1
  have hb := C.2.1
  have hl : lv_has ls 8 [(0, .ref (xa G 1)), (1, .int a1), (2, .int a2), (3, .int a3), (4, .int a4)] := hl
  refine lv_iconst (v := 0) hx hb dX2_giveRun_0 (by decide) ?_
  refine lv_istore (lv' := [(5, .int 0), (0, .ref (xa G 1)), (1, .int a1), (2, .int a2), (3, .int a3), (4, .int a4)]) hx hb dX2_giveRun_1 hl (by decide) rfl (fun ls hl => ?_)
  refine lv_iconst (v := 0) hx hb dX2_giveRun_3 (by decide) ?_
  refine lv_istore (lv' := [(6, .int 0), (5, .int 0), (0, .ref (xa G 1)), (1, .int a1), (2, .int a2), (3, .int a3), (4, .int a4)]) hx hb dX2_giveRun_4 hl (by decide) rfl (fun ls hl => ?_)
  refine xj (fun (zz : (Int32 × Mem)) => match zz with | (x34, M35) => ∀ (H : Heap) (locs : List Loc) (ls : Array Slot), va_P G.1 vwCl (wl G M35 h) H → va_S (Aw G) s.heap H locs → lv_has ls 8 [(5, .int x34)] → W p l e rm_X2_giveRun s m args below meth c H locs 0 0 Q (F0 m 53 ls [])) hf ?_ (fun hf => ?_)
  · rintro ⟨x34, M35⟩ hf H locs ls hP hS hl
    refine lv_iload hx hb dX2_giveRun_53 (lv_at hl 0 rfl) ?_
    exact hret _ _ _ _ _ _ (OB_some hf) hP hS dX2_giveRun_55
  · refine (it_W (fun (zz : (Int32 × Int32 × Mem)) => match zz with | (x31, x32, M33) => ∀ (H : Heap) (locs : List Loc) (ls : Array Slot), va_P G.1 vwCl (wl G M33 h) H → va_S (Aw G) s.heap H locs → lv_has ls 8 [(0, .ref (xa G 1)), (1, .int a1), (2, .int a2), (3, .int a3), (4, .int a4), (5, .int x31), (6, .int x32)] → W p l e rm_X2_giveRun s m args below meth c H locs 0 0 Q (F0 m 6 ls [])) hf ?_) _ _ _ hP hS (lv_sub hl [2, 3, 4, 5, 6, 1, 0] rfl)
    rintro ⟨x31, x32, M33⟩ hf H locs ls hP hS hl
    unfold f_X2_giveRun_b6 at hf
    refine lv_iload hx hb dX2_giveRun_6 (lv_at hl 6 rfl) ?_
    refine lv_iload hx hb dX2_giveRun_8 (lv_at hl 4 rfl) ?_
    refine lv_icmp_ge (tgt := 53) hx hb dX2_giveRun_10 (by decide) (fun hc => ?_) (fun hc => ?_)
    · have hf := (OB_t hf hc)
      exact (it_e hf) _ _ _ hP hS (lv_sub hl [5] rfl)
    · have hf := (OB_f hf hc)
      refine lv_iload_n hx hb dX2_giveRun_13 rfl (lv_at hl 2 rfl) ?_
      refine lv_bipush (v := 16) hx hb dX2_giveRun_14 (by decide) ?_
      refine lv_imul hx hb dX2_giveRun_16 ?_
      refine lv_iload_n hx hb dX2_giveRun_17 rfl (lv_at hl 3 rfl) ?_
      refine lv_iload hx hb dX2_giveRun_18 (lv_at hl 6 rfl) ?_
      refine x_ci0 (rest := [.int (a2 * 16)]) (x_runSN C hE hP hS ykX11_eastOf lkX2_27 (c_X11_eastOf (OB_bind hf)) (by decide) rfl hl.1 (Nat.le_of_ble_eq_true rfl) dX2_giveRun_20) hS (fun r36 H locs hf hP hS => ?_)
      refine lv_iadd hx hb dX2_giveRun_23 ?_
      refine lv_istore (lv' := [(7, .int ((a2 * 16) + r36)), (0, .ref (xa G 1)), (1, .int a1), (2, .int a2), (3, .int a3), (4, .int a4), (5, .int x31), (6, .int x32)]) hx hb dX2_giveRun_24 hl (by decide) rfl (fun ls hl => ?_)
      refine lv_aload_n hx hb dX2_giveRun_26 rfl (lv_at hl 1 rfl) ?_
      refine gfX2_9 C hE hP dX2_giveRun_27 ?_
      refine lv_iload hx hb dX2_giveRun_30 (lv_at hl 0 rfl) ?_
      obtain ⟨g37, hf⟩ := OB_g hf
      refine x_iald C hE hP sh2 g37 dX2_giveRun_32 ?_
      refine lv_iconst (v := -1) hx hb dX2_giveRun_33 (by decide) ?_
      refine xj (fun (zz : (Int32 × Mem)) => match zz with | (x40, M41) => ∀ (H : Heap) (locs : List Loc) (ls : Array Slot), va_P G.1 vwCl (wl G M41 h) H → va_S (Aw G) s.heap H locs → lv_has ls 8 [(0, .ref (xa G 1)), (1, .int a1), (2, .int a2), (3, .int a3), (4, .int a4), (5, .int x40), (6, .int x32)] → W p l e rm_X2_giveRun s m args below meth c H locs 0 0 Q (F0 m 47 ls [])) hf ?_ (fun hf => ?_)
      · rintro ⟨x40, M41⟩ hf H locs ls hP hS hl
        refine lv_iinc (v := (x32 + 1)) (lv' := [(6, .int (x32 + 1)), (0, .ref (xa G 1)), (1, .int a1), (2, .int a2), (3, .int a3), (4, .int a4), (5, .int x40)]) hx hb dX2_giveRun_47 hl (k := 6) rfl rfl (by decide) rfl (fun ls hl => ?_)
        refine lv_goto (tgt := 6) hx hb dX2_giveRun_50 (by decide) ?_
        exact (it_c hf) _ _ _ hP hS (lv_sub hl [1, 2, 3, 4, 5, 6, 0] rfl)
      · skip
        refine lv_icmp_ne (tgt := 47) hx hb dX2_giveRun_34 (by decide) (fun hc => ?_) (fun hc => ?_)
        · have hf := (OB_f hf hc)
          exact (OB_some hf) _ _ _ hP hS (lv_sub hl [1, 2, 3, 4, 5, 6, 7] rfl)
        · have hf := (OB_t hf hc)
          refine lv_aload_n hx hb dX2_giveRun_37 rfl (lv_at hl 1 rfl) ?_
          refine lv_iload hx hb dX2_giveRun_38 (lv_at hl 0 rfl) ?_
          refine lv_iload_n hx hb dX2_giveRun_40 rfl (lv_at hl 2 rfl) ?_
          refine x_cv1 (rest := []) (x_runV C hE hP hS ykX2_give lkX2_31 sh1 rfl (c_X2_give (OB_bind hf)) (by decide) rfl hl.1 (Nat.le_of_ble_eq_true rfl) dX2_giveRun_41) hS (fun M42 H locs hf hP hS => ?_)
          refine lv_iinc (v := (x31 + 1)) (lv' := [(5, .int (x31 + 1)), (7, .int ((a2 * 16) + r36)), (0, .ref (xa G 1)), (1, .int a1), (2, .int a2), (3, .int a3), (4, .int a4), (6, .int x32)]) hx hb dX2_giveRun_44 hl (k := 6) rfl rfl (by decide) rfl (fun ls hl => ?_)
          exact (OB_some hf) _ _ _ hP hS (lv_sub hl [2, 3, 4, 5, 6, 0, 7] rfl)
def rm_X2_sizeOf : Room := { frames := 1, cells := 0, slots := 0, locals := 22 }
set_option maxRecDepth 100000 in
set_option maxHeartbeats 8000000 in
theorem c_X2_sizeOf {l : Launch} {G : GG} {a1 : Int32} {M : Mem} {h : Int64}  {P9 : Int32 → Prop} (hf : OB (f_X2_sizeOf a1 M) P9) : Met1 l yX2_sizeOf cX2_sizeOf 4 (some .int) rm_X2_sizeOf G [.ref (xa G 1), .int a1] M h (QI0 G M h P9) := by
  unfold f_X2_sizeOf at hf
  refine xm_i0 (by decide) (Nat.le_of_ble_eq_true rfl) ?_
  intro p e s m args below meth c ls Q C hE hret hP hS hl
  have C : CallFix p m c cX2_sizeOf 4 s args TB RX2 := C
  have hx := C.1
  have hb := C.2.1
  have hl : lv_has ls 4 [(0, .ref (xa G 1)), (1, .int a1)] := hl
  refine lv_iconst (v := 0) hx hb dX2_sizeOf_0 (by decide) ?_
  refine lv_istore_n (lv' := [(2, .int 0), (0, .ref (xa G 1)), (1, .int a1)]) hx hb dX2_sizeOf_1 rfl hl (by decide) rfl (fun ls hl => ?_)
  refine lv_iconst (v := 0) hx hb dX2_sizeOf_2 (by decide) ?_
  refine lv_istore_n (lv' := [(3, .int 0), (2, .int 0), (0, .ref (xa G 1)), (1, .int a1)]) hx hb dX2_sizeOf_3 rfl hl (by decide) rfl (fun ls hl => ?_)
  refine xj (fun (x15 : Int32) => ∀ (H : Heap) (locs : List Loc) (ls : Array Slot), va_P G.1 vwCl (wl G M h) H → va_S (Aw G) s.heap H locs → lv_has ls 4 [(2, .int x15)] → W p l e rm_X2_sizeOf s m args below meth c H locs 0 0 Q (F0 m 28 ls [])) hf ?_ (fun hf => ?_)
  · rintro x15 hf H locs ls hP hS hl
    refine lv_iload_n hx hb dX2_sizeOf_28 rfl (lv_at hl 0 rfl) ?_
    exact hret _ _ _ _ _ (OB_some hf) hP hS dX2_sizeOf_29
  · refine (it_W (fun (zz : (Int32 × Int32)) => match zz with | (x13, x14) => ∀ (H : Heap) (locs : List Loc) (ls : Array Slot), va_P G.1 vwCl (wl G M h) H → va_S (Aw G) s.heap H locs → lv_has ls 4 [(0, .ref (xa G 1)), (1, .int a1), (2, .int x13), (3, .int x14)] → W p l e rm_X2_sizeOf s m args below meth c H locs 0 0 Q (F0 m 4 ls [])) hf ?_) _ _ _ hP hS (lv_sub hl [2, 3, 1, 0] rfl)
    rintro ⟨x13, x14⟩ hf H locs ls hP hS hl
    unfold f_X2_sizeOf_b4 at hf
    refine lv_iload_n hx hb dX2_sizeOf_4 rfl (lv_at hl 3 rfl) ?_
    refine lv_bipush (v := 8) hx hb dX2_sizeOf_5 (by decide) ?_
    refine lv_icmp_ge (tgt := 28) hx hb dX2_sizeOf_7 (by decide) (fun hc => ?_) (fun hc => ?_)
    · have hf := (OB_t hf hc)
      exact (it_e hf) _ _ _ hP hS (lv_sub hl [2] rfl)
    · have hf := (OB_f hf hc)
      refine lv_iload_n hx hb dX2_sizeOf_10 rfl (lv_at hl 2 rfl) ?_
      refine lv_aload_n hx hb dX2_sizeOf_11 rfl (lv_at hl 0 rfl) ?_
      refine lv_iload_n hx hb dX2_sizeOf_12 rfl (lv_at hl 1 rfl) ?_
      refine lv_iload_n hx hb dX2_sizeOf_13 rfl (lv_at hl 3 rfl) ?_
      refine x_ci0 (rest := [.int x13]) (x_runV C hE hP hS ykX2_maskOf lkX2_35 sh1 rfl (c_X2_maskOf (OB_bind hf)) (by decide) rfl hl.1 (Nat.le_of_ble_eq_true rfl) dX2_sizeOf_14) hS (fun r16 H locs hf hP hS => ?_)
      refine x_ci0 (rest := [.int x13]) (x_runS C hE hP hS ykJ6_bitCount_0f7a4 lkX2_38 (c_J6_bitCount_0f7a4 (OB_bind hf)) (by decide) rfl hl.1 (Nat.le_of_ble_eq_true rfl) dX2_sizeOf_17) hS (fun r17 H locs hf hP hS => ?_)
      refine lv_iadd hx hb dX2_sizeOf_20 ?_
      refine lv_istore_n (lv' := [(2, .int (x13 + r17)), (0, .ref (xa G 1)), (1, .int a1), (3, .int x14)]) hx hb dX2_sizeOf_21 rfl hl (by decide) rfl (fun ls hl => ?_)
      refine lv_iinc (v := (x14 + 1)) (lv' := [(3, .int (x14 + 1)), (2, .int (x13 + r17)), (0, .ref (xa G 1)), (1, .int a1)]) hx hb dX2_sizeOf_22 hl (k := 3) rfl rfl (by decide) rfl (fun ls hl => ?_)
      refine lv_goto (tgt := 4) hx hb dX2_sizeOf_25 (by decide) ?_
      exact (it_c hf) _ _ _ hP hS (lv_sub hl [2, 3, 1, 0] rfl)
def rm_X2_sizeOfAll : Room := { frames := 2, cells := 0, slots := 0, locals := 45 }
set_option maxRecDepth 100000 in
set_option maxHeartbeats 8000000 in
theorem c_X2_sizeOfAll {l : Launch} {G : GG}  {M : Mem} {h : Int64}  {P9 : Int32 → Prop} (hf : OB (f_X2_sizeOfAll M) P9) : Met1 l yX2_sizeOfAll cX2_sizeOfAll 3 (some .int) rm_X2_sizeOfAll G [.ref (xa G 1)] M h (QI0 G M h P9) := by
  unfold f_X2_sizeOfAll at hf
  refine xm_i0 (by decide) (Nat.le_of_ble_eq_true rfl) ?_
  intro p e s m args below meth c ls Q C hE hret hP hS hl
  have C : CallFix p m c cX2_sizeOfAll 3 s args TB RX2 := C
  have hx := C.1
  have hb := C.2.1
  have hl : lv_has ls 3 [(0, .ref (xa G 1))] := hl
  refine lv_iconst (v := 0) hx hb dX2_sizeOfAll_0 (by decide) ?_
  refine lv_istore_n (lv' := [(1, .int 0), (0, .ref (xa G 1))]) hx hb dX2_sizeOfAll_1 rfl hl (by decide) rfl (fun ls hl => ?_)
  refine lv_iconst (v := 0) hx hb dX2_sizeOfAll_2 (by decide) ?_
  refine lv_istore_n (lv' := [(2, .int 0), (1, .int 0), (0, .ref (xa G 1))]) hx hb dX2_sizeOfAll_3 rfl hl (by decide) rfl (fun ls hl => ?_)
  refine xj (fun (x12 : Int32) => ∀ (H : Heap) (locs : List Loc) (ls : Array Slot), va_P G.1 vwCl (wl G M h) H → va_S (Aw G) s.heap H locs → lv_has ls 3 [(1, .int x12)] → W p l e rm_X2_sizeOfAll s m args below meth c H locs 0 0 Q (F0 m 24 ls [])) hf ?_ (fun hf => ?_)
  · rintro x12 hf H locs ls hP hS hl
    refine lv_iload_n hx hb dX2_sizeOfAll_24 rfl (lv_at hl 0 rfl) ?_
    exact hret _ _ _ _ _ (OB_some hf) hP hS dX2_sizeOfAll_25
  · refine (it_W (fun (zz : (Int32 × Int32)) => match zz with | (x10, x11) => ∀ (H : Heap) (locs : List Loc) (ls : Array Slot), va_P G.1 vwCl (wl G M h) H → va_S (Aw G) s.heap H locs → lv_has ls 3 [(0, .ref (xa G 1)), (1, .int x10), (2, .int x11)] → W p l e rm_X2_sizeOfAll s m args below meth c H locs 0 0 Q (F0 m 4 ls [])) hf ?_) _ _ _ hP hS (lv_sub hl [2, 1, 0] rfl)
    rintro ⟨x10, x11⟩ hf H locs ls hP hS hl
    unfold f_X2_sizeOfAll_b4 at hf
    refine lv_iload_n hx hb dX2_sizeOfAll_4 rfl (lv_at hl 2 rfl) ?_
    refine lv_bipush (v := 6) hx hb dX2_sizeOfAll_5 (by decide) ?_
    refine lv_icmp_ge (tgt := 24) hx hb dX2_sizeOfAll_7 (by decide) (fun hc => ?_) (fun hc => ?_)
    · have hf := (OB_t hf hc)
      exact (it_e hf) _ _ _ hP hS (lv_sub hl [1] rfl)
    · have hf := (OB_f hf hc)
      refine lv_iload_n hx hb dX2_sizeOfAll_10 rfl (lv_at hl 1 rfl) ?_
      refine lv_aload_n hx hb dX2_sizeOfAll_11 rfl (lv_at hl 0 rfl) ?_
      refine lv_iload_n hx hb dX2_sizeOfAll_12 rfl (lv_at hl 2 rfl) ?_
      refine x_ci0 (rest := [.int x10]) (x_runV C hE hP hS ykX2_sizeOf lkX2_44 sh1 rfl (c_X2_sizeOf (OB_bind hf)) (by decide) rfl hl.1 (Nat.le_of_ble_eq_true rfl) dX2_sizeOfAll_13) hS (fun r13 H locs hf hP hS => ?_)
      refine lv_iadd hx hb dX2_sizeOfAll_16 ?_
      refine lv_istore_n (lv' := [(1, .int (x10 + r13)), (0, .ref (xa G 1)), (2, .int x11)]) hx hb dX2_sizeOfAll_17 rfl hl (by decide) rfl (fun ls hl => ?_)
      refine lv_iinc (v := (x11 + 1)) (lv' := [(2, .int (x11 + 1)), (1, .int (x10 + r13)), (0, .ref (xa G 1))]) hx hb dX2_sizeOfAll_18 hl (k := 2) rfl rfl (by decide) rfl (fun ls hl => ?_)
      refine lv_goto (tgt := 4) hx hb dX2_sizeOfAll_21 (by decide) ?_
      exact (it_c hf) _ _ _ hP hS (lv_sub hl [2, 1, 0] rfl)
def rm_J6_numberOfTrailingZeros_0f7a4 : Room := { frames := 0, cells := 0, slots := 0, locals := 0 }
set_option maxRecDepth 100000 in
set_option maxHeartbeats 8000000 in
theorem c_J6_numberOfTrailingZeros_0f7a4 {l : Launch} {G : GG} {a0 : Int32} {M : Mem} {h : Int64}  {P9 : Int32 → Prop} (hf : OB (f_J6_numberOfTrailingZeros_0f7a4 a0) P9) : Met1 l yJ6_numberOfTrailingZeros_0f7a4 cJ6_numberOfTrailingZeros_0f7a4 2 (some .int) rm_J6_numberOfTrailingZeros_0f7a4 G [.int a0] M h (QI0 G M h P9) := by
  unfold f_J6_numberOfTrailingZeros_0f7a4 at hf
  refine xm_i0 (by decide) (Nat.le_of_ble_eq_true rfl) ?_
  intro p e s m args below meth c ls Q C hE hret hP hS hl
  have C : CallFix p m c cJ6_numberOfTrailingZeros_0f7a4 2 s args TB RJ6 := C
  have hx := C.1
  have hb := C.2.1
  have hl : lv_has ls 2 [(0, .int a0)] := hl
  refine lv_iload_n hx hb dJ6_numberOfTrailingZeros_0f7a4_0 rfl (lv_at hl 0 rfl) ?_
  refine lv_iconst (v := -1) hx hb dJ6_numberOfTrailingZeros_0f7a4_1 (by decide) ?_
  refine lv_ixor hx hb dJ6_numberOfTrailingZeros_0f7a4_2 ?_
  refine lv_iload_n hx hb dJ6_numberOfTrailingZeros_0f7a4_3 rfl (lv_at hl 0 rfl) ?_
  refine lv_iconst (v := 1) hx hb dJ6_numberOfTrailingZeros_0f7a4_4 (by decide) ?_
  refine lv_isub hx hb dJ6_numberOfTrailingZeros_0f7a4_5 ?_
  refine lv_iand hx hb dJ6_numberOfTrailingZeros_0f7a4_6 ?_
  refine lv_istore_n (lv' := [(0, .int ((a0 ^^^ (-1)) &&& (a0 - 1)))]) hx hb dJ6_numberOfTrailingZeros_0f7a4_7 rfl hl (by decide) rfl (fun ls hl => ?_)
  refine lv_iload_n hx hb dJ6_numberOfTrailingZeros_0f7a4_8 rfl (lv_at hl 0 rfl) ?_
  refine lv_if_gt (tgt := 17) hx hb dJ6_numberOfTrailingZeros_0f7a4_9 (by decide) (fun hc => ?_) (fun hc => ?_)
  · have hf := (OB_t hf hc)
    refine lv_iconst (v := 1) hx hb dJ6_numberOfTrailingZeros_0f7a4_17 (by decide) ?_
    refine lv_istore_n (lv' := [(1, .int 1), (0, .int ((a0 ^^^ (-1)) &&& (a0 - 1)))]) hx hb dJ6_numberOfTrailingZeros_0f7a4_18 rfl hl (by decide) rfl (fun ls hl => ?_)
    refine lv_iload_n hx hb dJ6_numberOfTrailingZeros_0f7a4_19 rfl (lv_at hl 1 rfl) ?_
    refine lv_ldcw hx hb C.2.2.2.1 (C.2.2.2.2 _ ckJ6_264) dJ6_numberOfTrailingZeros_0f7a4_20 ?_
    refine xj (fun (zz : (Int32 × Int32)) => match zz with | (x1, x2) => ∀ (H : Heap) (locs : List Loc) (ls : Array Slot), va_P G.1 vwCl (wl G M h) H → va_S (Aw G) s.heap H locs → lv_has ls 2 [(0, .int x1), (1, .int x2)] → W p l e rm_J6_numberOfTrailingZeros_0f7a4 s m args below meth c H locs 0 0 Q (F0 m 34 ls [])) hf ?_ (fun hf => ?_)
    · rintro ⟨x1, x2⟩ hf H locs ls hP hS hl
      refine lv_iload_n hx hb dJ6_numberOfTrailingZeros_0f7a4_34 rfl (lv_at hl 0 rfl) ?_
      refine lv_sipush (v := 256) hx hb dJ6_numberOfTrailingZeros_0f7a4_35 (by decide) ?_
      refine xj (fun (zz : (Int32 × Int32)) => match zz with | (x3, x4) => ∀ (H : Heap) (locs : List Loc) (ls : Array Slot), va_P G.1 vwCl (wl G M h) H → va_S (Aw G) s.heap H locs → lv_has ls 2 [(0, .int x3), (1, .int x4)] → W p l e rm_J6_numberOfTrailingZeros_0f7a4 s m args below meth c H locs 0 0 Q (F0 m 49 ls [])) hf ?_ (fun hf => ?_)
      · rintro ⟨x3, x4⟩ hf H locs ls hP hS hl
        refine lv_iload_n hx hb dJ6_numberOfTrailingZeros_0f7a4_49 rfl (lv_at hl 0 rfl) ?_
        refine lv_bipush (v := 16) hx hb dJ6_numberOfTrailingZeros_0f7a4_50 (by decide) ?_
        refine xj (fun (zz : (Int32 × Int32)) => match zz with | (x5, x6) => ∀ (H : Heap) (locs : List Loc) (ls : Array Slot), va_P G.1 vwCl (wl G M h) H → va_S (Aw G) s.heap H locs → lv_has ls 2 [(0, .int x5), (1, .int x6)] → W p l e rm_J6_numberOfTrailingZeros_0f7a4 s m args below meth c H locs 0 0 Q (F0 m 62 ls [])) hf ?_ (fun hf => ?_)
        · rintro ⟨x5, x6⟩ hf H locs ls hP hS hl
          refine lv_iload_n hx hb dJ6_numberOfTrailingZeros_0f7a4_62 rfl (lv_at hl 0 rfl) ?_
          refine lv_iconst (v := 4) hx hb dJ6_numberOfTrailingZeros_0f7a4_63 (by decide) ?_
          refine xj (fun (zz : (Int32 × Int32)) => match zz with | (x7, x8) => ∀ (H : Heap) (locs : List Loc) (ls : Array Slot), va_P G.1 vwCl (wl G M h) H → va_S (Aw G) s.heap H locs → lv_has ls 2 [(0, .int x7), (1, .int x8)] → W p l e rm_J6_numberOfTrailingZeros_0f7a4 s m args below meth c H locs 0 0 Q (F0 m 74 ls [])) hf ?_ (fun hf => ?_)
          · rintro ⟨x7, x8⟩ hf H locs ls hP hS hl
            refine lv_iload_n hx hb dJ6_numberOfTrailingZeros_0f7a4_74 rfl (lv_at hl 1 rfl) ?_
            refine lv_iload_n hx hb dJ6_numberOfTrailingZeros_0f7a4_75 rfl (lv_at hl 0 rfl) ?_
            refine lv_iconst (v := 1) hx hb dJ6_numberOfTrailingZeros_0f7a4_76 (by decide) ?_
            refine x_iushr C dJ6_numberOfTrailingZeros_0f7a4_77 ?_
            refine lv_iadd hx hb dJ6_numberOfTrailingZeros_0f7a4_78 ?_
            exact hret _ _ _ _ _ (OB_some hf) hP hS dJ6_numberOfTrailingZeros_0f7a4_79
          · skip
            refine lv_icmp_le (tgt := 74) hx hb dJ6_numberOfTrailingZeros_0f7a4_64 (by decide) (fun hc => ?_) (fun hc => ?_)
            · have hf := (OB_t hf hc)
              exact (OB_some hf) _ _ _ hP hS (lv_sub hl [0, 1] rfl)
            · have hf := (OB_f hf hc)
              refine lv_iinc (v := (x6 + 2)) (lv' := [(1, .int (x6 + 2)), (0, .int x5)]) hx hb dJ6_numberOfTrailingZeros_0f7a4_67 hl (k := 1) rfl rfl (by decide) rfl (fun ls hl => ?_)
              refine lv_iload_n hx hb dJ6_numberOfTrailingZeros_0f7a4_70 rfl (lv_at hl 1 rfl) ?_
              refine lv_iconst (v := 2) hx hb dJ6_numberOfTrailingZeros_0f7a4_71 (by decide) ?_
              refine x_iushr C dJ6_numberOfTrailingZeros_0f7a4_72 ?_
              refine lv_istore_n (lv' := [(0, .int (jushr x5 2)), (1, .int (x6 + 2))]) hx hb dJ6_numberOfTrailingZeros_0f7a4_73 rfl hl (by decide) rfl (fun ls hl => ?_)
              exact (OB_some hf) _ _ _ hP hS (lv_sub hl [0, 1] rfl)
        · skip
          refine lv_icmp_le (tgt := 62) hx hb dJ6_numberOfTrailingZeros_0f7a4_52 (by decide) (fun hc => ?_) (fun hc => ?_)
          · have hf := (OB_t hf hc)
            exact (OB_some hf) _ _ _ hP hS (lv_sub hl [0, 1] rfl)
          · have hf := (OB_f hf hc)
            refine lv_iinc (v := (x4 + 4)) (lv' := [(1, .int (x4 + 4)), (0, .int x3)]) hx hb dJ6_numberOfTrailingZeros_0f7a4_55 hl (k := 1) rfl rfl (by decide) rfl (fun ls hl => ?_)
            refine lv_iload_n hx hb dJ6_numberOfTrailingZeros_0f7a4_58 rfl (lv_at hl 1 rfl) ?_
            refine lv_iconst (v := 4) hx hb dJ6_numberOfTrailingZeros_0f7a4_59 (by decide) ?_
            refine x_iushr C dJ6_numberOfTrailingZeros_0f7a4_60 ?_
            refine lv_istore_n (lv' := [(0, .int (jushr x3 4)), (1, .int (x4 + 4))]) hx hb dJ6_numberOfTrailingZeros_0f7a4_61 rfl hl (by decide) rfl (fun ls hl => ?_)
            exact (OB_some hf) _ _ _ hP hS (lv_sub hl [0, 1] rfl)
      · skip
        refine lv_icmp_le (tgt := 49) hx hb dJ6_numberOfTrailingZeros_0f7a4_38 (by decide) (fun hc => ?_) (fun hc => ?_)
        · have hf := (OB_t hf hc)
          exact (OB_some hf) _ _ _ hP hS (lv_sub hl [0, 1] rfl)
        · have hf := (OB_f hf hc)
          refine lv_iinc (v := (x2 + 8)) (lv' := [(1, .int (x2 + 8)), (0, .int x1)]) hx hb dJ6_numberOfTrailingZeros_0f7a4_41 hl (k := 1) rfl rfl (by decide) rfl (fun ls hl => ?_)
          refine lv_iload_n hx hb dJ6_numberOfTrailingZeros_0f7a4_44 rfl (lv_at hl 1 rfl) ?_
          refine lv_bipush (v := 8) hx hb dJ6_numberOfTrailingZeros_0f7a4_45 (by decide) ?_
          refine x_iushr C dJ6_numberOfTrailingZeros_0f7a4_47 ?_
          refine lv_istore_n (lv' := [(0, .int (jushr x1 8)), (1, .int (x2 + 8))]) hx hb dJ6_numberOfTrailingZeros_0f7a4_48 rfl hl (by decide) rfl (fun ls hl => ?_)
          exact (OB_some hf) _ _ _ hP hS (lv_sub hl [0, 1] rfl)
    · skip
      refine lv_icmp_le (tgt := 34) hx hb dJ6_numberOfTrailingZeros_0f7a4_23 (by decide) (fun hc => ?_) (fun hc => ?_)
      · have hf := (OB_t hf hc)
        exact (OB_some hf) _ _ _ hP hS (lv_sub hl [1, 0] rfl)
      · have hf := (OB_f hf hc)
        refine lv_iinc (v := (1 + 16)) (lv' := [(1, .int (1 + 16)), (0, .int ((a0 ^^^ (-1)) &&& (a0 - 1)))]) hx hb dJ6_numberOfTrailingZeros_0f7a4_26 hl (k := 0) rfl rfl (by decide) rfl (fun ls hl => ?_)
        refine lv_iload_n hx hb dJ6_numberOfTrailingZeros_0f7a4_29 rfl (lv_at hl 1 rfl) ?_
        refine lv_bipush (v := 16) hx hb dJ6_numberOfTrailingZeros_0f7a4_30 (by decide) ?_
        refine x_iushr C dJ6_numberOfTrailingZeros_0f7a4_32 ?_
        refine lv_istore_n (lv' := [(0, .int (jushr ((a0 ^^^ (-1)) &&& (a0 - 1)) 16)), (1, .int (1 + 16))]) hx hb dJ6_numberOfTrailingZeros_0f7a4_33 rfl hl (by decide) rfl (fun ls hl => ?_)
        exact (OB_some hf) _ _ _ hP hS (lv_sub hl [0, 1] rfl)
  · have hf := (OB_f hf hc)
    refine lv_iload_n hx hb dJ6_numberOfTrailingZeros_0f7a4_12 rfl (lv_at hl 0 rfl) ?_
    refine lv_bipush (v := 32) hx hb dJ6_numberOfTrailingZeros_0f7a4_13 (by decide) ?_
    refine lv_iand hx hb dJ6_numberOfTrailingZeros_0f7a4_15 ?_
    exact hret _ _ _ _ _ (OB_some hf) hP hS dJ6_numberOfTrailingZeros_0f7a4_16
def rm_X2_leastCellOf : Room := { frames := 1, cells := 0, slots := 0, locals := 22 }
set_option maxRecDepth 100000 in
set_option maxHeartbeats 8000000 in
theorem c_X2_leastCellOf {l : Launch} {G : GG} {a1 : Int32} {M : Mem} {h : Int64}  {P9 : Int32 → Prop} (hf : OB (f_X2_leastCellOf a1 M) P9) : Met1 l yX2_leastCellOf cX2_leastCellOf 4 (some .int) rm_X2_leastCellOf G [.ref (xa G 1), .int a1] M h (QI0 G M h P9) := by
  unfold f_X2_leastCellOf at hf
  refine xm_i0 (by decide) (Nat.le_of_ble_eq_true rfl) ?_
  intro p e s m args below meth c ls Q C hE hret hP hS hl
  have C : CallFix p m c cX2_leastCellOf 4 s args TB RX2 := C
  have hx := C.1
  have hb := C.2.1
  have hl : lv_has ls 4 [(0, .ref (xa G 1)), (1, .int a1)] := hl
  refine lv_iconst (v := 0) hx hb dX2_leastCellOf_0 (by decide) ?_
  refine lv_istore_n (lv' := [(2, .int 0), (0, .ref (xa G 1)), (1, .int a1)]) hx hb dX2_leastCellOf_1 rfl hl (by decide) rfl (fun ls hl => ?_)
  refine xj (it_P (fun (_ : Unit) => ∀ (H : Heap) (locs : List Loc) (ls : Array Slot), va_P G.1 vwCl (wl G M h) H → va_S (Aw G) s.heap H locs → lv_has ls 4 [] → W p l e rm_X2_leastCellOf s m args below meth c H locs 0 0 Q (F0 m 35 ls [])) P9) hf ?_ (fun hf => ?_)
  · rintro (_ | v) hf
    · intro H locs ls hP hS hl
      refine lv_iconst (v := -1) hx hb dX2_leastCellOf_35 (by decide) ?_
      exact hret _ _ _ _ _ (OB_some hf) hP hS dX2_leastCellOf_36
    · exact it_q hf
  · refine (it_W (fun (x7 : Int32) => ∀ (H : Heap) (locs : List Loc) (ls : Array Slot), va_P G.1 vwCl (wl G M h) H → va_S (Aw G) s.heap H locs → lv_has ls 4 [(0, .ref (xa G 1)), (1, .int a1), (2, .int x7)] → W p l e rm_X2_leastCellOf s m args below meth c H locs 0 0 Q (F0 m 2 ls [])) hf ?_) _ _ _ hP hS (lv_sub hl [1, 2, 0] rfl)
    rintro x7 hf H locs ls hP hS hl
    unfold f_X2_leastCellOf_b2 at hf
    refine lv_iload_n hx hb dX2_leastCellOf_2 rfl (lv_at hl 2 rfl) ?_
    refine lv_bipush (v := 8) hx hb dX2_leastCellOf_3 (by decide) ?_
    refine lv_icmp_ge (tgt := 35) hx hb dX2_leastCellOf_5 (by decide) (fun hc => ?_) (fun hc => ?_)
    · have hf := (OB_t hf hc)
      exact (it_e hf) _ _ _ hP hS (lv_sub hl [] rfl)
    · have hf := (OB_f hf hc)
      refine lv_aload_n hx hb dX2_leastCellOf_8 rfl (lv_at hl 0 rfl) ?_
      refine lv_iload_n hx hb dX2_leastCellOf_9 rfl (lv_at hl 1 rfl) ?_
      refine lv_iload_n hx hb dX2_leastCellOf_10 rfl (lv_at hl 2 rfl) ?_
      refine x_ci0 (rest := []) (x_runV C hE hP hS ykX2_maskOf lkX2_35 sh1 rfl (c_X2_maskOf (OB_bind hf)) (by decide) rfl hl.1 (Nat.le_of_ble_eq_true rfl) dX2_leastCellOf_11) hS (fun r8 H locs hf hP hS => ?_)
      refine lv_istore_n (lv' := [(3, .int r8), (0, .ref (xa G 1)), (1, .int a1), (2, .int x7)]) hx hb dX2_leastCellOf_14 rfl hl (by decide) rfl (fun ls hl => ?_)
      refine lv_iload_n hx hb dX2_leastCellOf_15 rfl (lv_at hl 0 rfl) ?_
      refine lv_if_eq (tgt := 29) hx hb dX2_leastCellOf_16 (by decide) (fun hc => ?_) (fun hc => ?_)
      · have hf := (OB_t hf hc)
        refine lv_iinc (v := (x7 + 1)) (lv' := [(2, .int (x7 + 1)), (3, .int r8), (0, .ref (xa G 1)), (1, .int a1)]) hx hb dX2_leastCellOf_29 hl (k := 3) rfl rfl (by decide) rfl (fun ls hl => ?_)
        refine lv_goto (tgt := 2) hx hb dX2_leastCellOf_32 (by decide) ?_
        exact (it_c hf) _ _ _ hP hS (lv_sub hl [2, 3, 0] rfl)
      · have hf := (OB_f hf hc)
        refine lv_iload_n hx hb dX2_leastCellOf_19 rfl (lv_at hl 3 rfl) ?_
        refine lv_bipush (v := 16) hx hb dX2_leastCellOf_20 (by decide) ?_
        refine lv_imul hx hb dX2_leastCellOf_22 ?_
        refine lv_iload_n hx hb dX2_leastCellOf_23 rfl (lv_at hl 0 rfl) ?_
        refine x_ci0 (rest := [.int (x7 * 16)]) (x_runS C hE hP hS ykJ6_numberOfTrailingZeros_0f7a4 lkX2_47 (c_J6_numberOfTrailingZeros_0f7a4 (OB_bind hf)) (by decide) rfl hl.1 (Nat.le_of_ble_eq_true rfl) dX2_leastCellOf_24) hS (fun r9 H locs hf hP hS => ?_)
        refine lv_iadd hx hb dX2_leastCellOf_27 ?_
        exact hret _ _ _ _ _ (it_r hf) hP hS dX2_leastCellOf_28
def rm_X2_columnsApart : Room := { frames := 0, cells := 0, slots := 0, locals := 0 }
set_option maxRecDepth 100000 in
set_option maxHeartbeats 8000000 in
theorem c_X2_columnsApart {l : Launch} {G : GG} {a0 : Int32} {a1 : Int32} {M : Mem} {h : Int64}  {P9 : Int32 → Prop} (hf : OB (f_X2_columnsApart a0 a1) P9) : Met1 l yX2_columnsApart cX2_columnsApart 4 (some .int) rm_X2_columnsApart G [.int a0, .int a1] M h (QI0 G M h P9) := by
  unfold f_X2_columnsApart at hf
  refine xm_i0 (by decide) (Nat.le_of_ble_eq_true rfl) ?_
  intro p e s m args below meth c ls Q C hE hret hP hS hl
  have C : CallFix p m c cX2_columnsApart 4 s args TB RX2 := C
  have hx := C.1
  have hb := C.2.1
  have hl : lv_has ls 4 [(0, .int a0), (1, .int a1)] := hl
  refine lv_iload_n hx hb dX2_columnsApart_0 rfl (lv_at hl 1 rfl) ?_
  refine lv_bipush (v := 16) hx hb dX2_columnsApart_1 (by decide) ?_
  refine x_ishl C dX2_columnsApart_3 ?_
  refine lv_iload_n hx hb dX2_columnsApart_4 rfl (lv_at hl 1 rfl) ?_
  refine lv_ior hx hb dX2_columnsApart_5 ?_
  refine lv_istore_n (lv' := [(2, .int ((jshl a1 16) ||| a1)), (0, .int a0), (1, .int a1)]) hx hb dX2_columnsApart_6 rfl hl (by decide) rfl (fun ls hl => ?_)
  refine lv_iconst (v := 0) hx hb dX2_columnsApart_7 (by decide) ?_
  refine lv_istore_n (lv' := [(3, .int 0), (2, .int ((jshl a1 16) ||| a1)), (0, .int a0), (1, .int a1)]) hx hb dX2_columnsApart_8 rfl hl (by decide) rfl (fun ls hl => ?_)
  refine xj (it_P (fun (_ : Unit) => ∀ (H : Heap) (locs : List Loc) (ls : Array Slot), va_P G.1 vwCl (wl G M h) H → va_S (Aw G) s.heap H locs → lv_has ls 4 [] → W p l e rm_X2_columnsApart s m args below meth c H locs 0 0 Q (F0 m 38 ls [])) P9) hf ?_ (fun hf => ?_)
  · rintro (_ | v) hf
    · intro H locs ls hP hS hl
      refine lv_bipush (v := 8) hx hb dX2_columnsApart_38 (by decide) ?_
      exact hret _ _ _ _ _ (OB_some hf) hP hS dX2_columnsApart_40
    · exact it_q hf
  · refine (it_W (fun (x3 : Int32) => ∀ (H : Heap) (locs : List Loc) (ls : Array Slot), va_P G.1 vwCl (wl G M h) H → va_S (Aw G) s.heap H locs → lv_has ls 4 [(0, .int a0), (2, .int ((jshl a1 16) ||| a1)), (3, .int x3)] → W p l e rm_X2_columnsApart s m args below meth c H locs 0 0 Q (F0 m 9 ls [])) hf ?_) _ _ _ hP hS (lv_sub hl [2, 1, 0] rfl)
    rintro x3 hf H locs ls hP hS hl
    unfold f_X2_columnsApart_b9 at hf
    refine lv_iload_n hx hb dX2_columnsApart_9 rfl (lv_at hl 2 rfl) ?_
    refine lv_bipush (v := 8) hx hb dX2_columnsApart_10 (by decide) ?_
    refine lv_icmp_ge (tgt := 38) hx hb dX2_columnsApart_12 (by decide) (fun hc => ?_) (fun hc => ?_)
    · have hf := (OB_t hf hc)
      exact (it_e hf) _ _ _ hP hS (lv_sub hl [] rfl)
    · have hf := (OB_f hf hc)
      refine lv_iload_n hx hb dX2_columnsApart_15 rfl (lv_at hl 0 rfl) ?_
      refine lv_iload_n hx hb dX2_columnsApart_16 rfl (lv_at hl 1 rfl) ?_
      refine lv_iload_n hx hb dX2_columnsApart_17 rfl (lv_at hl 2 rfl) ?_
      refine x_iushr C dX2_columnsApart_18 ?_
      refine lv_iload_n hx hb dX2_columnsApart_19 rfl (lv_at hl 1 rfl) ?_
      refine lv_bipush (v := 16) hx hb dX2_columnsApart_20 (by decide) ?_
      refine lv_iload_n hx hb dX2_columnsApart_22 rfl (lv_at hl 2 rfl) ?_
      refine lv_isub hx hb dX2_columnsApart_23 ?_
      refine x_iushr C dX2_columnsApart_24 ?_
      refine lv_ior hx hb dX2_columnsApart_25 ?_
      refine lv_iand hx hb dX2_columnsApart_26 ?_
      refine lv_if_eq (tgt := 32) hx hb dX2_columnsApart_27 (by decide) (fun hc => ?_) (fun hc => ?_)
      · have hf := (OB_t hf hc)
        refine lv_iinc (v := (x3 + 1)) (lv' := [(3, .int (x3 + 1)), (0, .int a0), (2, .int ((jshl a1 16) ||| a1))]) hx hb dX2_columnsApart_32 hl (k := 2) rfl rfl (by decide) rfl (fun ls hl => ?_)
        refine lv_goto (tgt := 9) hx hb dX2_columnsApart_35 (by decide) ?_
        exact (it_c hf) _ _ _ hP hS (lv_sub hl [1, 2, 0] rfl)
      · have hf := (OB_f hf hc)
        refine lv_iload_n hx hb dX2_columnsApart_30 rfl (lv_at hl 2 rfl) ?_
        exact hret _ _ _ _ _ (it_r hf) hP hS dX2_columnsApart_31
def rm_X2_measure : Room := { frames := 1, cells := 0, slots := 0, locals := 23 }
set_option maxRecDepth 100000 in
set_option maxHeartbeats 8000000 in
theorem c_X2_measure {l : Launch} {G : GG} {a1 : Int32} {a2 : Int32} {M : Mem} {h : Int64}  {P9 : Int32 → Prop} (hf : OB (f_X2_measure a1 a2 M) P9) : Met1 l yX2_measure cX2_measure 8 (some .int) rm_X2_measure G [.ref (xa G 1), .int a1, .int a2] M h (QI0 G M h P9) := by
  unfold f_X2_measure at hf
  refine xm_i0 (by decide) (Nat.le_of_ble_eq_true rfl) ?_
  intro p e s m args below meth c ls Q C hE hret hP hS hl
  have C : CallFix p m c cX2_measure 8 s args TB RX2 := C
  have hx := C.1
  have hb := C.2.1
  have hl : lv_has ls 8 [(0, .ref (xa G 1)), (1, .int a1), (2, .int a2)] := hl
  refine lv_bipush (v := 99) hx hb dX2_measure_0 (by decide) ?_
  refine lv_istore_n (lv' := [(3, .int 99), (0, .ref (xa G 1)), (1, .int a1), (2, .int a2)]) hx hb dX2_measure_2 rfl hl (by decide) rfl (fun ls hl => ?_)
  refine lv_iconst (v := 0) hx hb dX2_measure_3 (by decide) ?_
  refine lv_istore (lv' := [(4, .int 0), (3, .int 99), (0, .ref (xa G 1)), (1, .int a1), (2, .int a2)]) hx hb dX2_measure_4 hl (by decide) rfl (fun ls hl => ?_)
  refine xj (fun (x61 : Int32) => ∀ (H : Heap) (locs : List Loc) (ls : Array Slot), va_P G.1 vwCl (wl G M h) H → va_S (Aw G) s.heap H locs → lv_has ls 8 [(3, .int x61)] → W p l e rm_X2_measure s m args below meth c H locs 0 0 Q (F0 m 84 ls [])) hf ?_ (fun hf => ?_)
  · rintro x61 hf H locs ls hP hS hl
    refine lv_iload_n hx hb dX2_measure_84 rfl (lv_at hl 0 rfl) ?_
    exact hret _ _ _ _ _ (OB_some hf) hP hS dX2_measure_85
  · refine (it_W (fun (zz : (Int32 × Int32)) => match zz with | (x59, x60) => ∀ (H : Heap) (locs : List Loc) (ls : Array Slot), va_P G.1 vwCl (wl G M h) H → va_S (Aw G) s.heap H locs → lv_has ls 8 [(0, .ref (xa G 1)), (1, .int a1), (2, .int a2), (3, .int x59), (4, .int x60)] → W p l e rm_X2_measure s m args below meth c H locs 0 0 Q (F0 m 6 ls [])) hf ?_) _ _ _ hP hS (lv_sub hl [2, 3, 4, 1, 0] rfl)
    rintro ⟨x59, x60⟩ hf H locs ls hP hS hl
    unfold f_X2_measure_b6 at hf
    refine lv_iload hx hb dX2_measure_6 (lv_at hl 4 rfl) ?_
    refine lv_bipush (v := 8) hx hb dX2_measure_8 (by decide) ?_
    refine lv_icmp_ge (tgt := 84) hx hb dX2_measure_10 (by decide) (fun hc => ?_) (fun hc => ?_)
    · have hf := (OB_t hf hc)
      exact (it_e hf) _ _ _ hP hS (lv_sub hl [3] rfl)
    · have hf := (OB_f hf hc)
      refine lv_aload_n hx hb dX2_measure_13 rfl (lv_at hl 0 rfl) ?_
      refine lv_iload_n hx hb dX2_measure_14 rfl (lv_at hl 1 rfl) ?_
      refine lv_iload hx hb dX2_measure_15 (lv_at hl 4 rfl) ?_
      refine x_ci0 (rest := []) (x_runV C hE hP hS ykX2_maskOf lkX2_35 sh1 rfl (c_X2_maskOf (OB_bind hf)) (by decide) rfl hl.1 (Nat.le_of_ble_eq_true rfl) dX2_measure_17) hS (fun r62 H locs hf hP hS => ?_)
      refine lv_istore (lv' := [(5, .int r62), (0, .ref (xa G 1)), (1, .int a1), (2, .int a2), (3, .int x59), (4, .int x60)]) hx hb dX2_measure_20 hl (by decide) rfl (fun ls hl => ?_)
      refine lv_iconst (v := 0) hx hb dX2_measure_22 (by decide) ?_
      refine lv_istore (lv' := [(6, .int 0), (5, .int r62), (0, .ref (xa G 1)), (1, .int a1), (2, .int a2), (3, .int x59), (4, .int x60)]) hx hb dX2_measure_23 hl (by decide) rfl (fun ls hl => ?_)
      refine xj (fun (zz : (Int32 × Int32)) => match zz with | (x82, x83) => ∀ (H : Heap) (locs : List Loc) (ls : Array Slot), va_P G.1 vwCl (wl G M h) H → va_S (Aw G) s.heap H locs → lv_has ls 8 [(0, .ref (xa G 1)), (1, .int a1), (2, .int a2), (3, .int x82), (4, .int x83)] → W p l e rm_X2_measure s m args below meth c H locs 0 0 Q (F0 m 78 ls [])) hf ?_ (fun hf => ?_)
      · rintro ⟨x82, x83⟩ hf H locs ls hP hS hl
        refine lv_iinc (v := (x83 + 1)) (lv' := [(4, .int (x83 + 1)), (0, .ref (xa G 1)), (1, .int a1), (2, .int a2), (3, .int x82)]) hx hb dX2_measure_78 hl (k := 4) rfl rfl (by decide) rfl (fun ls hl => ?_)
        refine lv_goto (tgt := 6) hx hb dX2_measure_81 (by decide) ?_
        exact (it_c hf) _ _ _ hP hS (lv_sub hl [1, 2, 3, 4, 0] rfl)
      · refine (it_W (fun (zz : (Int32 × Int32 × Int32)) => match zz with | (x79, x80, x81) => ∀ (H : Heap) (locs : List Loc) (ls : Array Slot), va_P G.1 vwCl (wl G M h) H → va_S (Aw G) s.heap H locs → lv_has ls 8 [(0, .ref (xa G 1)), (1, .int a1), (2, .int a2), (3, .int x79), (4, .int x80), (5, .int r62), (6, .int x81)] → W p l e rm_X2_measure s m args below meth c H locs 0 0 Q (F0 m 25 ls [])) hf ?_) _ _ _ hP hS (lv_sub hl [2, 3, 4, 5, 6, 1, 0] rfl)
        rintro ⟨x79, x80, x81⟩ hf H locs ls hP hS hl
        unfold f_X2_measure_b25 at hf
        refine lv_iload hx hb dX2_measure_25 (lv_at hl 5 rfl) ?_
        refine lv_if_eq (tgt := 78) hx hb dX2_measure_27 (by decide) (fun hc => ?_) (fun hc => ?_)
        · have hf := (OB_t hf hc)
          exact (it_e hf) _ _ _ hP hS (lv_sub hl [0, 1, 2, 3, 4] rfl)
        · have hf := (OB_f hf hc)
          refine lv_iload hx hb dX2_measure_30 (lv_at hl 6 rfl) ?_
          refine lv_bipush (v := 8) hx hb dX2_measure_32 (by decide) ?_
          refine lv_icmp_ge (tgt := 78) hx hb dX2_measure_34 (by decide) (fun hc => ?_) (fun hc => ?_)
          · have hf := (OB_t hf hc)
            exact (it_e hf) _ _ _ hP hS (lv_sub hl [0, 1, 2, 3, 4] rfl)
          · have hf := (OB_f hf hc)
            refine lv_aload_n hx hb dX2_measure_37 rfl (lv_at hl 0 rfl) ?_
            refine lv_iload_n hx hb dX2_measure_38 rfl (lv_at hl 2 rfl) ?_
            refine lv_iload hx hb dX2_measure_39 (lv_at hl 6 rfl) ?_
            refine x_ci0 (rest := []) (x_runV C hE hP hS ykX2_maskOf lkX2_35 sh1 rfl (c_X2_maskOf (OB_bind hf)) (by decide) rfl hl.1 (Nat.le_of_ble_eq_true rfl) dX2_measure_41) hS (fun r84 H locs hf hP hS => ?_)
            refine lv_istore (lv' := [(7, .int r84), (0, .ref (xa G 1)), (1, .int a1), (2, .int a2), (3, .int x79), (4, .int x80), (5, .int r62), (6, .int x81)]) hx hb dX2_measure_44 hl (by decide) rfl (fun ls hl => ?_)
            refine lv_iload hx hb dX2_measure_46 (lv_at hl 0 rfl) ?_
            refine xj (fun (x87 : Int32) => ∀ (H : Heap) (locs : List Loc) (ls : Array Slot), va_P G.1 vwCl (wl G M h) H → va_S (Aw G) s.heap H locs → lv_has ls 8 [(0, .ref (xa G 1)), (1, .int a1), (2, .int a2), (3, .int x87), (4, .int x80), (5, .int r62), (6, .int x81)] → W p l e rm_X2_measure s m args below meth c H locs 0 0 Q (F0 m 72 ls [])) hf ?_ (fun hf => ?_)
            · rintro x87 hf H locs ls hP hS hl
              refine lv_iinc (v := (x81 + 1)) (lv' := [(6, .int (x81 + 1)), (0, .ref (xa G 1)), (1, .int a1), (2, .int a2), (3, .int x87), (4, .int x80), (5, .int r62)]) hx hb dX2_measure_72 hl (k := 6) rfl rfl (by decide) rfl (fun ls hl => ?_)
              refine lv_goto (tgt := 25) hx hb dX2_measure_75 (by decide) ?_
              exact (it_c hf) _ _ _ hP hS (lv_sub hl [1, 2, 3, 4, 5, 6, 0] rfl)
            · skip
              refine lv_if_eq (tgt := 72) hx hb dX2_measure_48 (by decide) (fun hc => ?_) (fun hc => ?_)
              · have hf := (OB_t hf hc)
                exact (OB_some hf) _ _ _ hP hS (lv_sub hl [1, 2, 3, 4, 5, 6, 7] rfl)
              · have hf := (OB_f hf hc)
                refine lv_iload_n hx hb dX2_measure_51 rfl (lv_at hl 4 rfl) ?_
                refine lv_iload hx hb dX2_measure_52 (lv_at hl 5 rfl) ?_
                refine lv_iload hx hb dX2_measure_54 (lv_at hl 7 rfl) ?_
                refine lv_isub hx hb dX2_measure_56 ?_
                refine x_mabs C hl.1 lkX2_66 (by decide) (Nat.le_of_ble_eq_true rfl) dX2_measure_57 ?_
                refine lv_iload hx hb dX2_measure_60 (lv_at hl 6 rfl) ?_
                refine lv_iload hx hb dX2_measure_62 (lv_at hl 0 rfl) ?_
                refine x_ci0 (rest := [.int (jabs (x80 - x81)), .int x79]) (x_runS C hE hP hS ykX2_columnsApart lkX2_69 (c_X2_columnsApart (OB_bind hf)) (by decide) rfl hl.1 (Nat.le_of_ble_eq_true rfl) dX2_measure_64) hS (fun r88 H locs hf hP hS => ?_)
                refine lv_iadd hx hb dX2_measure_67 ?_
                refine x_mmin C hl.1 lkX2_55 (by decide) (Nat.le_of_ble_eq_true rfl) dX2_measure_68 ?_
                refine lv_istore_n (lv' := [(3, .int (jmin x79 ((jabs (x80 - x81)) + r88))), (7, .int r84), (0, .ref (xa G 1)), (1, .int a1), (2, .int a2), (4, .int x80), (5, .int r62), (6, .int x81)]) hx hb dX2_measure_71 rfl hl (by decide) rfl (fun ls hl => ?_)
                exact (OB_some hf) _ _ _ hP hS (lv_sub hl [2, 3, 4, 0, 5, 6, 7] rfl)
def rm_X2_apart : Room := { frames := 2, cells := 0, slots := 0, locals := 50 }
set_option maxRecDepth 100000 in
set_option maxHeartbeats 8000000 in
theorem c_X2_apart {l : Launch} {G : GG} {a1 : Int32} {a2 : Int32} {M : Mem} {h : Int64}  {P9 : (Int32 × Mem) → Prop} (hf : OB (f_X2_apart a1 a2 M) P9) : Met1 l yX2_apart cX2_apart 4 (some .int) rm_X2_apart G [.ref (xa G 1), .int a1, .int a2] M h (QI1 G h P9) := by
  unfold f_X2_apart at hf
  refine xm_i1 (by decide) (Nat.le_of_ble_eq_true rfl) ?_
  intro p e s m args below meth c ls Q C hE hret hP hS hl
  have C : CallFix p m c cX2_apart 4 s args TB RX2 := C
  have hx := C.1
  have hb := C.2.1
  have hl : lv_has ls 4 [(0, .ref (xa G 1)), (1, .int a1), (2, .int a2)] := hl
  refine lv_iload_n hx hb dX2_apart_0 rfl (lv_at hl 1 rfl) ?_
  refine lv_iload_n hx hb dX2_apart_1 rfl (lv_at hl 2 rfl) ?_
  refine x_mmin C hl.1 lkX2_55 (by decide) (Nat.le_of_ble_eq_true rfl) dX2_apart_2 ?_
  refine lv_bipush (v := 6) hx hb dX2_apart_5 (by decide) ?_
  refine lv_imul hx hb dX2_apart_7 ?_
  refine lv_iload_n hx hb dX2_apart_8 rfl (lv_at hl 1 rfl) ?_
  refine lv_iload_n hx hb dX2_apart_9 rfl (lv_at hl 2 rfl) ?_
  refine x_mmax C hl.1 lkX2_60 (by decide) (Nat.le_of_ble_eq_true rfl) dX2_apart_10 ?_
  refine lv_iadd hx hb dX2_apart_13 ?_
  refine lv_istore_n (lv' := [(3, .int (((jmin a1 a2) * 6) + (jmax a1 a2))), (0, .ref (xa G 1)), (1, .int a1), (2, .int a2)]) hx hb dX2_apart_14 rfl hl (by decide) rfl (fun ls hl => ?_)
  refine lv_aload_n hx hb dX2_apart_15 rfl (lv_at hl 1 rfl) ?_
  refine gfX2_18 C hE hP dX2_apart_16 ?_
  refine lv_iload_n hx hb dX2_apart_19 rfl (lv_at hl 0 rfl) ?_
  obtain ⟨g1, hf⟩ := OB_g hf
  refine x_iald C hE hP sh4 g1 dX2_apart_20 ?_
  refine xj (fun (M4 : Mem) => ∀ (H : Heap) (locs : List Loc) (ls : Array Slot), va_P G.1 vwCl (wl G M4 h) H → va_S (Aw G) s.heap H locs → lv_has ls 4 [(0, .ref (xa G 1)), (3, .int (((jmin a1 a2) * 6) + (jmax a1 a2)))] → W p l e rm_X2_apart s m args below meth c H locs 0 0 Q (F0 m 36 ls [])) hf ?_ (fun hf => ?_)
  · rintro M4 hf H locs ls hP hS hl
    refine lv_aload_n hx hb dX2_apart_36 rfl (lv_at hl 0 rfl) ?_
    refine gfX2_18 C hE hP dX2_apart_37 ?_
    refine lv_iload_n hx hb dX2_apart_40 rfl (lv_at hl 1 rfl) ?_
    refine x_iald C hE hP sh4 g1 dX2_apart_41 ?_
    exact hret _ _ _ _ _ _ (OB_some hf) hP hS dX2_apart_42
  · skip
    refine lv_if_ne (tgt := 36) hx hb dX2_apart_21 (by decide) (fun hc => ?_) (fun hc => ?_)
    · have hf := (OB_f hf hc)
      exact (OB_some hf) _ _ _ hP hS (lv_sub hl [1, 0] rfl)
    · have hf := (OB_t hf hc)
      refine lv_aload_n hx hb dX2_apart_24 rfl (lv_at hl 1 rfl) ?_
      refine gfX2_18 C hE hP dX2_apart_25 ?_
      refine lv_iload_n hx hb dX2_apart_28 rfl (lv_at hl 0 rfl) ?_
      refine lv_aload_n hx hb dX2_apart_29 rfl (lv_at hl 1 rfl) ?_
      refine lv_iload_n hx hb dX2_apart_30 rfl (lv_at hl 2 rfl) ?_
      refine lv_iload_n hx hb dX2_apart_31 rfl (lv_at hl 3 rfl) ?_
      refine x_ci0 (rest := [.int (((jmin a1 a2) * 6) + (jmax a1 a2)), .ref (xa G 4)]) (x_runV C hE hP hS ykX2_measure lkX2_63 sh1 rfl (c_X2_measure (OB_bind hf)) (by decide) rfl hl.1 (Nat.le_of_ble_eq_true rfl) dX2_apart_32) hS (fun r5 H locs hf hP hS => ?_)
      refine x_iast C hE hP hS sh4 g1 dX2_apart_35 (fun H locs hP hS => ?_)
      exact (OB_some hf) _ _ _ hP hS (lv_sub hl [1, 0] rfl)
def rm_X11_then : Room := { frames := 0, cells := 0, slots := 0, locals := 0 }
set_option maxRecDepth 100000 in
set_option maxHeartbeats 8000000 in
theorem c_X11_then {l : Launch} {G : GG} {a0 : Int64} {a2 : Int64} {M : Mem} {h : Int64}  {P9 : Int64 → Prop} (hf : OB (f_X11_then a0 a2) P9) : Met1 l yX11_then cX11_then 4 (some .long) rm_X11_then G [.long a0, .long a2] M h (QL0 G M h P9) := by
  unfold f_X11_then at hf
  refine xm_l0 (by decide) (Nat.le_of_ble_eq_true rfl) ?_
  intro p e s m args below meth c ls Q C hE hret hP hS hl
  have C : CallFix p m c cX11_then 4 s args TB RX11 := C
  have hx := C.1
  have hb := C.2.1
  have hl : lv_has ls 4 [(0, .long a0), (2, .long a2)] := hl
  refine lv_ldc2 hx hb C.2.2.2.1 (C.2.2.2.2 _ ckX11_354) dX11_then_0 ?_
  refine lv_lload_n hx hb dX11_then_3 rfl (lv_at hl 0 rfl) ?_
  refine lv_lmul hx hb dX11_then_4 ?_
  refine lv_lload_n hx hb dX11_then_5 rfl (lv_at hl 1 rfl) ?_
  refine lv_ladd hx hb dX11_then_6 ?_
  exact hret _ _ _ _ _ (OB_some hf) hP hS dX11_then_7
def rm_X2_toldCells : Room := { frames := 1, cells := 0, slots := 0, locals := 23 }
set_option maxRecDepth 100000 in
set_option maxHeartbeats 8000000 in
theorem c_X2_toldCells {l : Launch} {G : GG} {a1 : Int64} {M : Mem} {h : Int64}  {P9 : Int64 → Prop} (hf : OB (f_X2_toldCells a1 M) P9) : Met1 l yX2_toldCells cX2_toldCells 4 (some .long) rm_X2_toldCells G [.ref (xa G 1), .long a1] M h (QL0 G M h P9) := by
  unfold f_X2_toldCells at hf
  refine xm_l0 (by decide) (Nat.le_of_ble_eq_true rfl) ?_
  intro p e s m args below meth c ls Q C hE hret hP hS hl
  have C : CallFix p m c cX2_toldCells 4 s args TB RX2 := C
  have hx := C.1
  have hb := C.2.1
  have hl : lv_has ls 4 [(0, .ref (xa G 1)), (1, .long a1)] := hl
  refine lv_iconst (v := 0) hx hb dX2_toldCells_0 (by decide) ?_
  refine lv_istore_n (lv' := [(3, .int 0), (0, .ref (xa G 1)), (1, .long a1)]) hx hb dX2_toldCells_1 rfl hl (by decide) rfl (fun ls hl => ?_)
  refine xj (fun (x11 : Int64) => ∀ (H : Heap) (locs : List Loc) (ls : Array Slot), va_P G.1 vwCl (wl G M h) H → va_S (Aw G) s.heap H locs → lv_has ls 4 [(1, .long x11)] → W p l e rm_X2_toldCells s m args below meth c H locs 0 0 Q (F0 m 27 ls [])) hf ?_ (fun hf => ?_)
  · rintro x11 hf H locs ls hP hS hl
    refine lv_lload_n hx hb dX2_toldCells_27 rfl (lv_at hl 0 rfl) ?_
    exact hret _ _ _ _ _ (OB_some hf) hP hS dX2_toldCells_28
  · refine (it_W (fun (zz : (Int64 × Int32)) => match zz with | (x9, x10) => ∀ (H : Heap) (locs : List Loc) (ls : Array Slot), va_P G.1 vwCl (wl G M h) H → va_S (Aw G) s.heap H locs → lv_has ls 4 [(0, .ref (xa G 1)), (1, .long x9), (3, .int x10)] → W p l e rm_X2_toldCells s m args below meth c H locs 0 0 Q (F0 m 2 ls [])) hf ?_) _ _ _ hP hS (lv_sub hl [1, 2, 0] rfl)
    rintro ⟨x9, x10⟩ hf H locs ls hP hS hl
    unfold f_X2_toldCells_b2 at hf
    refine lv_iload_n hx hb dX2_toldCells_2 rfl (lv_at hl 2 rfl) ?_
    refine lv_sipush (v := 128) hx hb dX2_toldCells_3 (by decide) ?_
    refine lv_icmp_ge (tgt := 27) hx hb dX2_toldCells_6 (by decide) (fun hc => ?_) (fun hc => ?_)
    · have hf := (OB_t hf hc)
      exact (it_e hf) _ _ _ hP hS (lv_sub hl [1] rfl)
    · have hf := (OB_f hf hc)
      refine lv_lload_n hx hb dX2_toldCells_9 rfl (lv_at hl 1 rfl) ?_
      refine lv_aload_n hx hb dX2_toldCells_10 rfl (lv_at hl 0 rfl) ?_
      refine gfX2_9 C hE hP dX2_toldCells_11 ?_
      refine lv_iload_n hx hb dX2_toldCells_14 rfl (lv_at hl 2 rfl) ?_
      obtain ⟨g12, hf⟩ := OB_g hf
      refine x_iald C hE hP sh2 g12 dX2_toldCells_15 ?_
      refine lv_i2l hx hb dX2_toldCells_16 rfl ?_
      refine x_cl0 (rest := []) (x_runSN C hE hP hS ykX11_then lkX2_72 (c_X11_then (OB_bind hf)) (by decide) rfl hl.1 (Nat.le_of_ble_eq_true rfl) dX2_toldCells_17) hS (fun r13 H locs hf hP hS => ?_)
      refine lv_lstore_n (lv' := [(1, .long r13), (0, .ref (xa G 1)), (3, .int x10)]) hx hb dX2_toldCells_20 rfl hl (by decide) rfl (fun ls hl => ?_)
      refine lv_iinc (v := (x10 + 1)) (lv' := [(3, .int (x10 + 1)), (1, .long r13), (0, .ref (xa G 1))]) hx hb dX2_toldCells_21 hl (k := 2) rfl rfl (by decide) rfl (fun ls hl => ?_)
      refine lv_goto (tgt := 2) hx hb dX2_toldCells_24 (by decide) ?_
      exact (it_c hf) _ _ _ hP hS (lv_sub hl [2, 1, 0] rfl)
def rm_X2_toldDistances : Room := { frames := 3, cells := 0, slots := 0, locals := 73 }
set_option maxRecDepth 100000 in
set_option maxHeartbeats 8000000 in
theorem c_X2_toldDistances {l : Launch} {G : GG} {a1 : Int64} {M : Mem} {h : Int64}  {P9 : (Int64 × Mem) → Prop} (hf : OB (f_X2_toldDistances a1 M) P9) : Met1 l yX2_toldDistances cX2_toldDistances 5 (some .long) rm_X2_toldDistances G [.ref (xa G 1), .long a1] M h (QL1 G h P9) := by
  unfold f_X2_toldDistances at hf
  refine xm_l1 (by decide) (Nat.le_of_ble_eq_true rfl) ?_
  intro p e s m args below meth c ls Q C hE hret hP hS hl
  have C : CallFix p m c cX2_toldDistances 5 s args TB RX2 := C
  have hx := C.1
  have hb := C.2.1
  have hl : lv_has ls 5 [(0, .ref (xa G 1)), (1, .long a1)] := hl
  refine lv_iconst (v := 0) hx hb dX2_toldDistances_0 (by decide) ?_
  refine lv_istore_n (lv' := [(3, .int 0), (0, .ref (xa G 1)), (1, .long a1)]) hx hb dX2_toldDistances_1 rfl hl (by decide) rfl (fun ls hl => ?_)
  refine xj (fun (zz : (Int64 × Mem)) => match zz with | (x58, M59) => ∀ (H : Heap) (locs : List Loc) (ls : Array Slot), va_P G.1 vwCl (wl G M59 h) H → va_S (Aw G) s.heap H locs → lv_has ls 5 [(1, .long x58)] → W p l e rm_X2_toldDistances s m args below meth c H locs 0 0 Q (F0 m 45 ls [])) hf ?_ (fun hf => ?_)
  · rintro ⟨x58, M59⟩ hf H locs ls hP hS hl
    refine lv_lload_n hx hb dX2_toldDistances_45 rfl (lv_at hl 0 rfl) ?_
    exact hret _ _ _ _ _ _ (OB_some hf) hP hS dX2_toldDistances_46
  · refine (it_W (fun (zz : (Int64 × Int32 × Mem)) => match zz with | (x55, x56, M57) => ∀ (H : Heap) (locs : List Loc) (ls : Array Slot), va_P G.1 vwCl (wl G M57 h) H → va_S (Aw G) s.heap H locs → lv_has ls 5 [(0, .ref (xa G 1)), (1, .long x55), (3, .int x56)] → W p l e rm_X2_toldDistances s m args below meth c H locs 0 0 Q (F0 m 2 ls [])) hf ?_) _ _ _ hP hS (lv_sub hl [1, 2, 0] rfl)
    rintro ⟨x55, x56, M57⟩ hf H locs ls hP hS hl
    unfold f_X2_toldDistances_b2 at hf
    refine lv_iload_n hx hb dX2_toldDistances_2 rfl (lv_at hl 2 rfl) ?_
    refine lv_bipush (v := 6) hx hb dX2_toldDistances_3 (by decide) ?_
    refine lv_icmp_ge (tgt := 45) hx hb dX2_toldDistances_5 (by decide) (fun hc => ?_) (fun hc => ?_)
    · have hf := (OB_t hf hc)
      exact (it_e hf) _ _ _ hP hS (lv_sub hl [1] rfl)
    · have hf := (OB_f hf hc)
      refine lv_iload_n hx hb dX2_toldDistances_8 rfl (lv_at hl 2 rfl) ?_
      refine lv_iconst (v := 1) hx hb dX2_toldDistances_9 (by decide) ?_
      refine lv_iadd hx hb dX2_toldDistances_10 ?_
      refine lv_istore (lv' := [(4, .int (x56 + 1)), (0, .ref (xa G 1)), (1, .long x55), (3, .int x56)]) hx hb dX2_toldDistances_11 hl (by decide) rfl (fun ls hl => ?_)
      refine xj (fun (zz : (Int64 × Int32 × Mem)) => match zz with | (x78, x79, M80) => ∀ (H : Heap) (locs : List Loc) (ls : Array Slot), va_P G.1 vwCl (wl G M80 h) H → va_S (Aw G) s.heap H locs → lv_has ls 5 [(0, .ref (xa G 1)), (1, .long x78), (3, .int x79)] → W p l e rm_X2_toldDistances s m args below meth c H locs 0 0 Q (F0 m 39 ls [])) hf ?_ (fun hf => ?_)
      · rintro ⟨x78, x79, M80⟩ hf H locs ls hP hS hl
        refine lv_iinc (v := (x79 + 1)) (lv' := [(3, .int (x79 + 1)), (0, .ref (xa G 1)), (1, .long x78)]) hx hb dX2_toldDistances_39 hl (k := 2) rfl rfl (by decide) rfl (fun ls hl => ?_)
        refine lv_goto (tgt := 2) hx hb dX2_toldDistances_42 (by decide) ?_
        exact (it_c hf) _ _ _ hP hS (lv_sub hl [1, 2, 0] rfl)
      · refine (it_W (fun (zz : (Int64 × Int32 × Int32 × Mem)) => match zz with | (x74, x75, x76, M77) => ∀ (H : Heap) (locs : List Loc) (ls : Array Slot), va_P G.1 vwCl (wl G M77 h) H → va_S (Aw G) s.heap H locs → lv_has ls 5 [(0, .ref (xa G 1)), (1, .long x74), (3, .int x75), (4, .int x76)] → W p l e rm_X2_toldDistances s m args below meth c H locs 0 0 Q (F0 m 13 ls [])) hf ?_) _ _ _ hP hS (lv_sub hl [1, 2, 3, 0] rfl)
        rintro ⟨x74, x75, x76, M77⟩ hf H locs ls hP hS hl
        unfold f_X2_toldDistances_b13 at hf
        refine lv_iload hx hb dX2_toldDistances_13 (lv_at hl 3 rfl) ?_
        refine lv_bipush (v := 6) hx hb dX2_toldDistances_15 (by decide) ?_
        refine lv_icmp_ge (tgt := 39) hx hb dX2_toldDistances_17 (by decide) (fun hc => ?_) (fun hc => ?_)
        · have hf := (OB_t hf hc)
          exact (it_e hf) _ _ _ hP hS (lv_sub hl [0, 1, 2] rfl)
        · have hf := (OB_f hf hc)
          refine lv_lload_n hx hb dX2_toldDistances_20 rfl (lv_at hl 1 rfl) ?_
          refine lv_aload_n hx hb dX2_toldDistances_21 rfl (lv_at hl 0 rfl) ?_
          refine lv_iload_n hx hb dX2_toldDistances_22 rfl (lv_at hl 2 rfl) ?_
          refine lv_iload hx hb dX2_toldDistances_23 (lv_at hl 3 rfl) ?_
          refine x_ci1 (rest := [.long x74]) (x_runV C hE hP hS ykX2_apart lkX2_76 sh1 rfl (c_X2_apart (OB_bind hf)) (by decide) rfl hl.1 (Nat.le_of_ble_eq_true rfl) dX2_toldDistances_25) hS (fun r81 M82 H locs hf hP hS => ?_)
          refine lv_i2l hx hb dX2_toldDistances_28 rfl ?_
          refine x_cl0 (rest := []) (x_runSN C hE hP hS ykX11_then lkX2_72 (c_X11_then (OB_bind hf)) (by decide) rfl hl.1 (Nat.le_of_ble_eq_true rfl) dX2_toldDistances_29) hS (fun r83 H locs hf hP hS => ?_)
          refine lv_lstore_n (lv' := [(1, .long r83), (0, .ref (xa G 1)), (3, .int x75), (4, .int x76)]) hx hb dX2_toldDistances_32 rfl hl (by decide) rfl (fun ls hl => ?_)
          refine lv_iinc (v := (x76 + 1)) (lv' := [(4, .int (x76 + 1)), (1, .long r83), (0, .ref (xa G 1)), (3, .int x75)]) hx hb dX2_toldDistances_33 hl (k := 3) rfl rfl (by decide) rfl (fun ls hl => ?_)
          refine lv_goto (tgt := 13) hx hb dX2_toldDistances_36 (by decide) ?_
          exact (it_c hf) _ _ _ hP hS (lv_sub hl [2, 1, 3, 0] rfl)
def rm_X3_size : Room := { frames := 0, cells := 0, slots := 0, locals := 0 }
set_option maxRecDepth 100000 in
set_option maxHeartbeats 8000000 in
theorem c_X3_size {l : Launch} {G : GG} {P : Nat} {M : Mem} {h : Int64} (hP0 : isHolder P) {P9 : Int32 → Prop} (hf : OB (f_X3_size P M) P9) : Met1 l yX3_size cX3_size 1 (some .int) rm_X3_size G [.ref (xa G P)] M h (QI0 G M h P9) := by
  unfold f_X3_size at hf
  refine xm_i0 (by decide) (Nat.le_of_ble_eq_true rfl) ?_
  intro p e s m args below meth c ls Q C hE hret hP hS hl
  have C : CallFix p m c cX3_size 1 s args TB RX3 := C
  have hx := C.1
  have hb := C.2.1
  have hl : lv_has ls 1 [(0, .ref (xa G P))] := hl
  refine lv_aload_n hx hb dX3_size_0 rfl (lv_at hl 0 rfl) ?_
  refine gfX3_22 hP0 C hE hP dX3_size_1 ?_
  exact hret _ _ _ _ _ (OB_some hf) hP hS dX3_size_4
def rm_X3_isFull : Room := { frames := 0, cells := 0, slots := 0, locals := 0 }
set_option maxRecDepth 100000 in
set_option maxHeartbeats 8000000 in
theorem c_X3_isFull {l : Launch} {G : GG} {P : Nat} {M : Mem} {h : Int64} (hP0 : isHolder P) {P9 : Bool → Prop} (hf : OB (f_X3_isFull P M) P9) : Met1 l yX3_isFull cX3_isFull 1 (some .boolean) rm_X3_isFull G [.ref (xa G P)] M h (QZ0 G M h P9) := by
  unfold f_X3_isFull at hf
  refine xm_z0 (by decide) (Nat.le_of_ble_eq_true rfl) ?_
  intro p e s m args below meth c ls Q C hE hret hP hS hl
  have C : CallFix p m c cX3_isFull 1 s args TB RX3 := C
  have hx := C.1
  have hb := C.2.1
  have hl : lv_has ls 1 [(0, .ref (xa G P))] := hl
  refine lv_aload_n hx hb dX3_isFull_0 rfl (lv_at hl 0 rfl) ?_
  refine gfX3_22 hP0 C hE hP dX3_isFull_1 ?_
  refine lv_bipush (v := 8) hx hb dX3_isFull_4 (by decide) ?_
  refine xj (fun (x1 : Bool) => ∀ (H : Heap) (locs : List Loc) (ls : Array Slot), va_P G.1 vwCl (wl G M h) H → va_S (Aw G) s.heap H locs → lv_has ls 1 [] → W p l e rm_X3_isFull s m args below meth c H locs 0 0 Q (F0 m 14 ls [.int (bI x1)])) hf ?_ (fun hf => ?_)
  · rintro x1 hf H locs ls hP hS hl
    exact hret _ _ _ _ _ (OB_some hf) hP hS dX3_isFull_14
  · skip
    refine lv_icmp_lt (tgt := 13) hx hb dX3_isFull_6 (by decide) (fun hc => ?_) (fun hc => ?_)
    · have hf := (OB_t hf hc)
      refine lv_iconst (v := 0) hx hb dX3_isFull_13 (by decide) ?_
      refine W.eq (g2 := F0 m 14 ls [.int (bI false)]) rfl ?_
      exact (OB_some hf) _ _ _ hP hS (lv_sub hl [] rfl)
    · have hf := (OB_f hf hc)
      refine lv_iconst (v := 1) hx hb dX3_isFull_9 (by decide) ?_
      refine lv_goto (tgt := 14) hx hb dX3_isFull_10 (by decide) ?_
      refine W.eq (g2 := F0 m 14 ls [.int (bI true)]) rfl ?_
      exact (OB_some hf) _ _ _ hP hS (lv_sub hl [] rfl)
def rm_J1_canEncode_9a6ad : Room := { frames := 0, cells := 0, slots := 0, locals := 0 }
set_option maxRecDepth 100000 in
set_option maxHeartbeats 8000000 in
theorem c_J1_canEncode_9a6ad {l : Launch} {G : GG} {a0 : Int32} {M : Mem} {h : Int64}  {P9 : Bool → Prop} (hf : OB (f_J1_canEncode_9a6ad a0) P9) : Met1 l yJ1_canEncode_9a6ad cJ1_canEncode_9a6ad 1 (some .boolean) rm_J1_canEncode_9a6ad G [.int a0] M h (QZ0 G M h P9) := by
  unfold f_J1_canEncode_9a6ad at hf
  refine xm_z0 (by decide) (Nat.le_of_ble_eq_true rfl) ?_
  intro p e s m args below meth c ls Q C hE hret hP hS hl
  have C : CallFix p m c cJ1_canEncode_9a6ad 1 s args TB RJ1 := C
  have hx := C.1
  have hb := C.2.1
  have hl : lv_has ls 1 [(0, .int a0)] := hl
  refine lv_iload_n hx hb dJ1_canEncode_9a6ad_0 rfl (lv_at hl 0 rfl) ?_
  refine xj (fun (x1 : Bool) => ∀ (H : Heap) (locs : List Loc) (ls : Array Slot), va_P G.1 vwCl (wl G M h) H → va_S (Aw G) s.heap H locs → lv_has ls 1 [] → W p l e rm_J1_canEncode_9a6ad s m args below meth c H locs 0 0 Q (F0 m 16 ls [.int (bI x1)])) hf ?_ (fun hf => ?_)
  · rintro x1 hf H locs ls hP hS hl
    exact hret _ _ _ _ _ (OB_some hf) hP hS dJ1_canEncode_9a6ad_16
  · skip
    refine lv_if_lt (tgt := 15) hx hb dJ1_canEncode_9a6ad_1 (by decide) (fun hc => ?_) (fun hc => ?_)
    · have hf := (OB_t hf hc)
      refine lv_iconst (v := 0) hx hb dJ1_canEncode_9a6ad_15 (by decide) ?_
      refine W.eq (g2 := F0 m 16 ls [.int (bI false)]) rfl ?_
      exact (OB_some hf) _ _ _ hP hS (lv_sub hl [] rfl)
    · have hf := (OB_f hf hc)
      refine lv_iload_n hx hb dJ1_canEncode_9a6ad_4 rfl (lv_at hl 0 rfl) ?_
      refine lv_sipush (v := 255) hx hb dJ1_canEncode_9a6ad_5 (by decide) ?_
      refine lv_icmp_gt (tgt := 15) hx hb dJ1_canEncode_9a6ad_8 (by decide) (fun hc => ?_) (fun hc => ?_)
      · have hf := (OB_t hf hc)
        refine lv_iconst (v := 0) hx hb dJ1_canEncode_9a6ad_15 (by decide) ?_
        refine W.eq (g2 := F0 m 16 ls [.int (bI false)]) rfl ?_
        exact (OB_some hf) _ _ _ hP hS (lv_sub hl [] rfl)
      · have hf := (OB_f hf hc)
        refine lv_iconst (v := 1) hx hb dJ1_canEncode_9a6ad_11 (by decide) ?_
        refine lv_goto (tgt := 16) hx hb dJ1_canEncode_9a6ad_12 (by decide) ?_
        refine W.eq (g2 := F0 m 16 ls [.int (bI true)]) rfl ?_
        exact (OB_some hf) _ _ _ hP hS (lv_sub hl [] rfl)
def rm_J1_indexOfChar_4cfef : Room := { frames := 0, cells := 0, slots := 0, locals := 0 }
set_option maxRecDepth 100000 in
set_option maxHeartbeats 8000000 in
theorem c_J1_indexOfChar_4cfef {l : Launch} {G : GG} {k0 : Nat} {a1 : Int32} {a2 : Int32} {a3 : Int32} {M : Mem} {h : Int64} (hk0 : k0 < 3) {P9 : Int32 → Prop} (hf : OB (f_J1_indexOfChar_4cfef k0 a1 a2 a3) P9) : Met1 l yJ1_indexOfChar_4cfef cJ1_indexOfChar_4cfef 6 (some .int) rm_J1_indexOfChar_4cfef G [.ref (gV G k0), .int a1, .int a2, .int a3] M h (QI0 G M h P9) := by
  unfold f_J1_indexOfChar_4cfef at hf
  refine xm_i0 (by decide) (Nat.le_of_ble_eq_true rfl) ?_
  intro p e s m args below meth c ls Q C hE hret hP hS hl
  have C : CallFix p m c cJ1_indexOfChar_4cfef 6 s args TB RJ1 := C
  have hx := C.1
  have hb := C.2.1
  have hl : lv_has ls 6 [(0, .ref (gV G k0)), (1, .int a1), (2, .int a2), (3, .int a3)] := hl
  refine lv_iload_n hx hb dJ1_indexOfChar_4cfef_0 rfl (lv_at hl 1 rfl) ?_
  refine lv_i2b hx hb dJ1_indexOfChar_4cfef_1 rfl ?_
  refine lv_istore (lv' := [(4, .int (Int8.toInt32 (Int32.toInt8 a1))), (0, .ref (gV G k0)), (1, .int a1), (2, .int a2), (3, .int a3)]) hx hb dJ1_indexOfChar_4cfef_2 hl (by decide) rfl (fun ls hl => ?_)
  refine lv_iload_n hx hb dJ1_indexOfChar_4cfef_4 rfl (lv_at hl 3 rfl) ?_
  refine lv_istore (lv' := [(5, .int a2), (4, .int (Int8.toInt32 (Int32.toInt8 a1))), (0, .ref (gV G k0)), (1, .int a1), (2, .int a2), (3, .int a3)]) hx hb dJ1_indexOfChar_4cfef_5 hl (by decide) rfl (fun ls hl => ?_)
  refine xj (it_P (fun (_ : Unit) => ∀ (H : Heap) (locs : List Loc) (ls : Array Slot), va_P G.1 vwCl (wl G M h) H → va_S (Aw G) s.heap H locs → lv_has ls 6 [] → W p l e rm_J1_indexOfChar_4cfef s m args below meth c H locs 0 0 Q (F0 m 31 ls [])) P9) hf ?_ (fun hf => ?_)
  · rintro (_ | v) hf
    · intro H locs ls hP hS hl
      refine lv_iconst (v := -1) hx hb dJ1_indexOfChar_4cfef_31 (by decide) ?_
      exact hret _ _ _ _ _ (OB_some hf) hP hS dJ1_indexOfChar_4cfef_32
    · exact it_q hf
  · refine (it_W (fun (x3 : Int32) => ∀ (H : Heap) (locs : List Loc) (ls : Array Slot), va_P G.1 vwCl (wl G M h) H → va_S (Aw G) s.heap H locs → lv_has ls 6 [(0, .ref (gV G k0)), (3, .int a3), (4, .int (Int8.toInt32 (Int32.toInt8 a1))), (5, .int x3)] → W p l e rm_J1_indexOfChar_4cfef s m args below meth c H locs 0 0 Q (F0 m 7 ls [])) hf ?_) _ _ _ hP hS (lv_sub hl [2, 5, 1, 0] rfl)
    rintro x3 hf H locs ls hP hS hl
    unfold f_J1_indexOfChar_4cfef_b7 at hf
    refine lv_iload hx hb dJ1_indexOfChar_4cfef_7 (lv_at hl 3 rfl) ?_
    refine lv_iload_n hx hb dJ1_indexOfChar_4cfef_9 rfl (lv_at hl 1 rfl) ?_
    refine lv_icmp_ge (tgt := 31) hx hb dJ1_indexOfChar_4cfef_10 (by decide) (fun hc => ?_) (fun hc => ?_)
    · have hf := (OB_t hf hc)
      exact (it_e hf) _ _ _ hP hS (lv_sub hl [] rfl)
    · have hf := (OB_f hf hc)
      refine lv_aload_n hx hb dJ1_indexOfChar_4cfef_13 rfl (lv_at hl 0 rfl) ?_
      refine lv_iload hx hb dJ1_indexOfChar_4cfef_14 (lv_at hl 3 rfl) ?_
      obtain ⟨g4, hf⟩ := OB_g hf
      refine x_sbald C hE hS hk0 g4 dJ1_indexOfChar_4cfef_16 ?_
      refine lv_iload hx hb dJ1_indexOfChar_4cfef_17 (lv_at hl 2 rfl) ?_
      refine lv_icmp_ne (tgt := 25) hx hb dJ1_indexOfChar_4cfef_19 (by decide) (fun hc => ?_) (fun hc => ?_)
      · have hf := (OB_f hf hc)
        refine lv_iinc (v := (x3 + 1)) (lv' := [(5, .int (x3 + 1)), (0, .ref (gV G k0)), (3, .int a3), (4, .int (Int8.toInt32 (Int32.toInt8 a1)))]) hx hb dJ1_indexOfChar_4cfef_25 hl (k := 3) rfl rfl (by decide) rfl (fun ls hl => ?_)
        refine lv_goto (tgt := 7) hx hb dJ1_indexOfChar_4cfef_28 (by decide) ?_
        exact (it_c hf) _ _ _ hP hS (lv_sub hl [1, 2, 3, 0] rfl)
      · have hf := (OB_t hf hc)
        refine lv_iload hx hb dJ1_indexOfChar_4cfef_22 (lv_at hl 3 rfl) ?_
        exact hret _ _ _ _ _ (it_r hf) hP hS dJ1_indexOfChar_4cfef_24
def rm_J1_indexOf_4cfef : Room := { frames := 1, cells := 0, slots := 0, locals := 25 }
set_option maxRecDepth 100000 in
set_option maxHeartbeats 8000000 in
theorem c_J1_indexOf_4cfef {l : Launch} {G : GG} {k0 : Nat} {a1 : Int32} {a2 : Int32} {a3 : Int32} {M : Mem} {h : Int64} (hk0 : k0 < 3) {P9 : Int32 → Prop} (hf : OB (f_J1_indexOf_4cfef k0 a1 a2 a3) P9) : Met1 l yJ1_indexOf_4cfef cJ1_indexOf_4cfef 4 (some .int) rm_J1_indexOf_4cfef G [.ref (gV G k0), .int a1, .int a2, .int a3] M h (QI0 G M h P9) := by
  unfold f_J1_indexOf_4cfef at hf
  refine xm_i0 (by decide) (Nat.le_of_ble_eq_true rfl) ?_
  intro p e s m args below meth c ls Q C hE hret hP hS hl
  have C : CallFix p m c cJ1_indexOf_4cfef 4 s args TB RJ1 := C
  have hx := C.1
  have hb := C.2.1
  have hl : lv_has ls 4 [(0, .ref (gV G k0)), (1, .int a1), (2, .int a2), (3, .int a3)] := hl
  refine lv_iload_n hx hb dJ1_indexOf_4cfef_0 rfl (lv_at hl 1 rfl) ?_
  refine x_cz0 (rest := []) (x_runS C hE hP hS ykJ1_canEncode_9a6ad lkJ1_88 (c_J1_canEncode_9a6ad (OB_bind hf)) (by decide) rfl hl.1 (Nat.le_of_ble_eq_true rfl) dJ1_indexOf_4cfef_1) hS (fun r1 H locs hf hP hS => ?_)
  refine lv_if_ne (tgt := 9) hx hb dJ1_indexOf_4cfef_4 (by decide) (fun hc => ?_) (fun hc => ?_)
  · have hf := (OB_t hf (bI_t hc))
    refine lv_iload_n hx hb dJ1_indexOf_4cfef_9 rfl (lv_at hl 2 rfl) ?_
    refine lv_iconst (v := 0) hx hb dJ1_indexOf_4cfef_10 (by decide) ?_
    refine x_mmax C hl.1 lkJ1_92 (by decide) (Nat.le_of_ble_eq_true rfl) dJ1_indexOf_4cfef_11 ?_
    refine lv_istore_n (lv' := [(2, .int (jmax a2 0)), (0, .ref (gV G k0)), (1, .int a1), (3, .int a3)]) hx hb dJ1_indexOf_4cfef_14 rfl hl (by decide) rfl (fun ls hl => ?_)
    refine lv_iload_n hx hb dJ1_indexOf_4cfef_15 rfl (lv_at hl 3 rfl) ?_
    refine lv_aload_n hx hb dJ1_indexOf_4cfef_16 rfl (lv_at hl 1 rfl) ?_
    refine x_sblen C hE hS hk0 dJ1_indexOf_4cfef_17 ?_
    refine x_mmin C hl.1 lkJ1_38 (by decide) (Nat.le_of_ble_eq_true rfl) dJ1_indexOf_4cfef_18 ?_
    refine lv_istore_n (lv' := [(3, .int (jmin a3 (nI (SL k0)))), (2, .int (jmax a2 0)), (0, .ref (gV G k0)), (1, .int a1)]) hx hb dJ1_indexOf_4cfef_21 rfl hl (by decide) rfl (fun ls hl => ?_)
    refine lv_iload_n hx hb dJ1_indexOf_4cfef_22 rfl (lv_at hl 1 rfl) ?_
    refine lv_iload_n hx hb dJ1_indexOf_4cfef_23 rfl (lv_at hl 0 rfl) ?_
    refine lv_icmp_lt (tgt := 29) hx hb dJ1_indexOf_4cfef_24 (by decide) (fun hc => ?_) (fun hc => ?_)
    · have hf := (OB_t hf hc)
      refine lv_aload_n hx hb dJ1_indexOf_4cfef_29 rfl (lv_at hl 2 rfl) ?_
      refine lv_iload_n hx hb dJ1_indexOf_4cfef_30 rfl (lv_at hl 3 rfl) ?_
      refine lv_iload_n hx hb dJ1_indexOf_4cfef_31 rfl (lv_at hl 1 rfl) ?_
      refine lv_iload_n hx hb dJ1_indexOf_4cfef_32 rfl (lv_at hl 0 rfl) ?_
      refine x_ci0 (rest := []) (x_runS C hE hP hS ykJ1_indexOfChar_4cfef lkJ1_95 (c_J1_indexOfChar_4cfef hk0 (OB_bind hf)) (by decide) rfl hl.1 (Nat.le_of_ble_eq_true rfl) dJ1_indexOf_4cfef_33) hS (fun r2 H locs hf hP hS => ?_)
      exact hret _ _ _ _ _ (OB_some hf) hP hS dJ1_indexOf_4cfef_36
    · have hf := (OB_f hf hc)
      refine lv_iconst (v := -1) hx hb dJ1_indexOf_4cfef_27 (by decide) ?_
      exact hret _ _ _ _ _ (OB_some hf) hP hS dJ1_indexOf_4cfef_28
  · have hf := (OB_f hf (bI_f hc))
    refine lv_iconst (v := -1) hx hb dJ1_indexOf_4cfef_7 (by decide) ?_
    exact hret _ _ _ _ _ (OB_some hf) hP hS dJ1_indexOf_4cfef_8
def rm_J0_indexOf_7cf53 : Room := { frames := 2, cells := 0, slots := 0, locals := 48 }
set_option maxRecDepth 100000 in
set_option maxHeartbeats 8000000 in
theorem c_J0_indexOf_7cf53 {l : Launch} {G : GG} {k0 : Nat} {a1 : Int32} {a2 : Int32} {M : Mem} {h : Int64} (hk0 : k0 < 3) {P9 : Int32 → Prop} (hf : OB (f_J0_indexOf_7cf53 k0 a1 a2) P9) : Met1 l yJ0_indexOf_7cf53 cJ0_indexOf_7cf53 3 (some .int) rm_J0_indexOf_7cf53 G [.ref (gK G k0), .int a1, .int a2] M h (QI0 G M h P9) := by
  unfold f_J0_indexOf_7cf53 at hf
  refine xm_i0 (by decide) (Nat.le_of_ble_eq_true rfl) ?_
  intro p e s m args below meth c ls Q C hE hret hP hS hl
  have C : CallFix p m c cJ0_indexOf_7cf53 3 s args TB RJ0 := C
  have hx := C.1
  have hb := C.2.1
  have hl : lv_has ls 3 [(0, .ref (gK G k0)), (1, .int a1), (2, .int a2)] := hl
  refine lv_aload_n hx hb dJ0_indexOf_7cf53_0 rfl (lv_at hl 0 rfl) ?_
  refine x_cz0 (rest := []) (x_runVS C hE hP hS ykJ0_isLatin1_aae02 lkJ0_492 hk0 rfl (c_J0_isLatin1_aae02 hk0 (OB_bind hf)) (by decide) rfl hl.1 (Nat.le_of_ble_eq_true rfl) dJ0_indexOf_7cf53_1) hS (fun r1 H locs hf hP hS => ?_)
  refine xj (fun (x8 : Int32) => ∀ (H : Heap) (locs : List Loc) (ls : Array Slot), va_P G.1 vwCl (wl G M h) H → va_S (Aw G) s.heap H locs → lv_has ls 3 [] → W p l e rm_J0_indexOf_7cf53 s m args below meth c H locs 0 0 Q (F0 m 36 ls [.int x8])) hf ?_ (fun hf => ?_)
  · rintro x8 hf H locs ls hP hS hl
    exact hret _ _ _ _ _ (OB_some hf) hP hS dJ0_indexOf_7cf53_36
  · skip
    refine lv_if_eq (tgt := 23) hx hb dJ0_indexOf_7cf53_4 (by decide) (fun hc => ?_) (fun hc => ?_)
    · have hf := (OB_f hf (bI_f hc))
      refine lv_aload_n hx hb dJ0_indexOf_7cf53_23 rfl (lv_at hl 0 rfl) ?_
      refine x_sval C hE hS hk0 dJ0_indexOf_7cf53_24 ?_
      refine lv_iload_n hx hb dJ0_indexOf_7cf53_27 rfl (lv_at hl 1 rfl) ?_
      refine lv_iload_n hx hb dJ0_indexOf_7cf53_28 rfl (lv_at hl 2 rfl) ?_
      refine lv_aload_n hx hb dJ0_indexOf_7cf53_29 rfl (lv_at hl 0 rfl) ?_
      refine x_ci0 (rest := [.int a2, .int a1, .ref (gV G k0)]) (x_runVS C hE hP hS ykJ0_length_8abf5 lkJ0_505 hk0 rfl (c_J0_length_8abf5 hk0 (OB_bind hf)) (by decide) rfl hl.1 (Nat.le_of_ble_eq_true rfl) dJ0_indexOf_7cf53_30) hS (fun r9 H locs hf hP hS => ?_)
      exact absurd hf OB_none
    · have hf := (OB_t hf (bI_t hc))
      refine lv_aload_n hx hb dJ0_indexOf_7cf53_7 rfl (lv_at hl 0 rfl) ?_
      refine x_sval C hE hS hk0 dJ0_indexOf_7cf53_8 ?_
      refine lv_iload_n hx hb dJ0_indexOf_7cf53_11 rfl (lv_at hl 1 rfl) ?_
      refine lv_iload_n hx hb dJ0_indexOf_7cf53_12 rfl (lv_at hl 2 rfl) ?_
      refine lv_aload_n hx hb dJ0_indexOf_7cf53_13 rfl (lv_at hl 0 rfl) ?_
      refine x_ci0 (rest := [.int a2, .int a1, .ref (gV G k0)]) (x_runVS C hE hP hS ykJ0_length_8abf5 lkJ0_505 hk0 rfl (c_J0_length_8abf5 hk0 (OB_bind hf)) (by decide) rfl hl.1 (Nat.le_of_ble_eq_true rfl) dJ0_indexOf_7cf53_14) hS (fun r10 H locs hf hP hS => ?_)
      refine x_ci0 (rest := []) (x_runS C hE hP hS ykJ1_indexOf_4cfef lkJ0_637 (c_J1_indexOf_4cfef hk0 (OB_bind hf)) (by decide) rfl hl.1 (Nat.le_of_ble_eq_true rfl) dJ0_indexOf_7cf53_17) hS (fun r11 H locs hf hP hS => ?_)
      refine lv_goto (tgt := 36) hx hb dJ0_indexOf_7cf53_20 (by decide) ?_
      exact (OB_some hf) _ _ _ hP hS (lv_sub hl [] rfl)
def rm_J0_indexOf_0f7a4 : Room := { frames := 3, cells := 0, slots := 0, locals := 70 }
set_option maxRecDepth 100000 in
set_option maxHeartbeats 8000000 in
theorem c_J0_indexOf_0f7a4 {l : Launch} {G : GG} {k0 : Nat} {a1 : Int32} {M : Mem} {h : Int64} (hk0 : k0 < 3) {P9 : Int32 → Prop} (hf : OB (f_J0_indexOf_0f7a4 k0 a1) P9) : Met1 l yJ0_indexOf_0f7a4 cJ0_indexOf_0f7a4 2 (some .int) rm_J0_indexOf_0f7a4 G [.ref (gK G k0), .int a1] M h (QI0 G M h P9) := by
  unfold f_J0_indexOf_0f7a4 at hf
  refine xm_i0 (by decide) (Nat.le_of_ble_eq_true rfl) ?_
  intro p e s m args below meth c ls Q C hE hret hP hS hl
  have C : CallFix p m c cJ0_indexOf_0f7a4 2 s args TB RJ0 := C
  have hx := C.1
  have hb := C.2.1
  have hl : lv_has ls 2 [(0, .ref (gK G k0)), (1, .int a1)] := hl
  refine lv_aload_n hx hb dJ0_indexOf_0f7a4_0 rfl (lv_at hl 0 rfl) ?_
  refine lv_iload_n hx hb dJ0_indexOf_0f7a4_1 rfl (lv_at hl 1 rfl) ?_
  refine lv_iconst (v := 0) hx hb dJ0_indexOf_0f7a4_2 (by decide) ?_
  refine x_ci0 (rest := []) (x_runVS C hE hP hS ykJ0_indexOf_7cf53 lkJ0_633 hk0 rfl (c_J0_indexOf_7cf53 hk0 (OB_bind hf)) (by decide) rfl hl.1 (Nat.le_of_ble_eq_true rfl) dJ0_indexOf_0f7a4_3) hS (fun r1 H locs hf hP hS => ?_)
  exact hret _ _ _ _ _ (OB_some hf) hP hS dJ0_indexOf_0f7a4_6
def rm_X4_takeAheadOfFactor : Room := { frames := 0, cells := 0, slots := 0, locals := 0 }
set_option maxRecDepth 100000 in
set_option maxHeartbeats 8000000 in
theorem c_X4_takeAheadOfFactor {l : Launch} {G : GG} {Q0 : Nat} {a1 : Int32} {M : Mem} {h : Int64} (hQ0 : isLaw Q0) {P9 : Mem → Prop} (hf : OB (f_X4_takeAheadOfFactor Q0 a1 M) P9) : Met1 l yX4_takeAheadOfFactor cX4_takeAheadOfFactor 2 none rm_X4_takeAheadOfFactor G [.ref (xa G Q0), .int a1] M h (QV1 G h P9) := by
  unfold f_X4_takeAheadOfFactor at hf
  refine xm_v1 (by decide) (Nat.le_of_ble_eq_true rfl) ?_
  intro p e s m args below meth c ls Q C hE hret hP hS hl
  have C : CallFix p m c cX4_takeAheadOfFactor 2 s args TB RX4 := C
  have hx := C.1
  have hb := C.2.1
  have hl : lv_has ls 2 [(0, .ref (xa G Q0)), (1, .int a1)] := hl
  refine lv_iload_n hx hb dX4_takeAheadOfFactor_0 rfl (lv_at hl 1 rfl) ?_
  refine lv_bipush (v := 33) hx hb dX4_takeAheadOfFactor_1 (by decide) ?_
  refine xj (fun (M5 : Mem) => ∀ (H : Heap) (locs : List Loc) (ls : Array Slot), va_P G.1 vwCl (wl G M5 h) H → va_S (Aw G) s.heap H locs → lv_has ls 2 [] → W p l e rm_X4_takeAheadOfFactor s m args below meth c H locs 0 0 Q (F0 m 45 ls [])) hf ?_ (fun hf => ?_)
  · rintro M5 hf H locs ls hP hS hl
    exact hret _ _ _ _ _ (OB_some hf) hP hS dX4_takeAheadOfFactor_45
  · skip
    refine lv_icmp_ne (tgt := 25) hx hb dX4_takeAheadOfFactor_3 (by decide) (fun hc => ?_) (fun hc => ?_)
    · have hf := (OB_f hf hc)
      refine lv_aload_n hx hb dX4_takeAheadOfFactor_25 rfl (lv_at hl 0 rfl) ?_
      refine lv_iconst (v := 0) hx hb dX4_takeAheadOfFactor_26 (by decide) ?_
      refine W.eq (g2 := F0 m 27 ls [.int (bI false), .ref (xa G Q0)]) rfl ?_
      refine pfX4_65 hQ0 C hE hP hS dX4_takeAheadOfFactor_27 (fun H locs hP hS => ?_)
      refine lv_aload_n hx hb dX4_takeAheadOfFactor_30 rfl (lv_at hl 0 rfl) ?_
      refine lv_iload_n hx hb dX4_takeAheadOfFactor_31 rfl (lv_at hl 1 rfl) ?_
      refine lv_bipush (v := 38) hx hb dX4_takeAheadOfFactor_32 (by decide) ?_
      refine xj (fun (x6 : Bool) => ∀ (H : Heap) (locs : List Loc) (ls : Array Slot), va_P G.1 vwCl (wl G (up M Q0 3 (bI false)) h) H → va_S (Aw G) s.heap H locs → lv_has ls 2 [] → W p l e rm_X4_takeAheadOfFactor s m args below meth c H locs 0 0 Q (F0 m 42 ls [.int (bI x6), .ref (xa G Q0)])) hf ?_ (fun hf => ?_)
      · rintro x6 hf H locs ls hP hS hl
        refine pfX4_69 hQ0 C hE hP hS dX4_takeAheadOfFactor_42 (fun H locs hP hS => ?_)
        exact (OB_some hf) _ _ _ hP hS (lv_sub hl [] rfl)
      · skip
        refine lv_icmp_eq (tgt := 41) hx hb dX4_takeAheadOfFactor_34 (by decide) (fun hc => ?_) (fun hc => ?_)
        · have hf := (OB_t hf hc)
          refine lv_iconst (v := 0) hx hb dX4_takeAheadOfFactor_41 (by decide) ?_
          refine W.eq (g2 := F0 m 42 ls [.int (bI false), .ref (xa G Q0)]) rfl ?_
          exact (OB_some hf) _ _ _ hP hS (lv_sub hl [] rfl)
        · have hf := (OB_f hf hc)
          refine lv_iconst (v := 1) hx hb dX4_takeAheadOfFactor_37 (by decide) ?_
          refine lv_goto (tgt := 42) hx hb dX4_takeAheadOfFactor_38 (by decide) ?_
          refine W.eq (g2 := F0 m 42 ls [.int (bI true), .ref (xa G Q0)]) rfl ?_
          exact (OB_some hf) _ _ _ hP hS (lv_sub hl [] rfl)
    · have hf := (OB_t hf hc)
      refine lv_aload_n hx hb dX4_takeAheadOfFactor_6 rfl (lv_at hl 0 rfl) ?_
      refine lv_aload_n hx hb dX4_takeAheadOfFactor_7 rfl (lv_at hl 0 rfl) ?_
      refine gfX4_65 hQ0 C hE hP dX4_takeAheadOfFactor_8 ?_
      refine xj (fun (x7 : Bool) => ∀ (H : Heap) (locs : List Loc) (ls : Array Slot), va_P G.1 vwCl (wl G M h) H → va_S (Aw G) s.heap H locs → lv_has ls 2 [] → W p l e rm_X4_takeAheadOfFactor s m args below meth c H locs 0 0 Q (F0 m 19 ls [.int (bI x7), .ref (xa G Q0)])) hf ?_ (fun hf => ?_)
      · rintro x7 hf H locs ls hP hS hl
        refine pfX4_65 hQ0 C hE hP hS dX4_takeAheadOfFactor_19 (fun H locs hP hS => ?_)
        refine lv_goto (tgt := 45) hx hb dX4_takeAheadOfFactor_22 (by decide) ?_
        exact (OB_some hf) _ _ _ hP hS (lv_sub hl [] rfl)
      · skip
        refine lv_if_ne (tgt := 18) hx hb dX4_takeAheadOfFactor_11 (by decide) (fun hc => ?_) (fun hc => ?_)
        · have hf := (OB_f hf hc)
          refine lv_iconst (v := 0) hx hb dX4_takeAheadOfFactor_18 (by decide) ?_
          refine W.eq (g2 := F0 m 19 ls [.int (bI false), .ref (xa G Q0)]) rfl ?_
          exact (OB_some hf) _ _ _ hP hS (lv_sub hl [] rfl)
        · have hf := (OB_t hf hc)
          refine lv_iconst (v := 1) hx hb dX4_takeAheadOfFactor_14 (by decide) ?_
          refine lv_goto (tgt := 19) hx hb dX4_takeAheadOfFactor_15 (by decide) ?_
          refine W.eq (g2 := F0 m 19 ls [.int (bI true), .ref (xa G Q0)]) rfl ?_
          exact (OB_some hf) _ _ _ hP hS (lv_sub hl [] rfl)
def rm_X4_takeSecondDigit : Room := { frames := 0, cells := 0, slots := 0, locals := 0 }
set_option maxRecDepth 100000 in
set_option maxHeartbeats 8000000 in
theorem c_X4_takeSecondDigit {l : Launch} {G : GG} {Q0 : Nat} {a1 : Int32} {M : Mem} {h : Int64} (hQ0 : isLaw Q0) {P9 : Mem → Prop} (hf : OB (f_X4_takeSecondDigit Q0 a1 M) P9) : Met1 l yX4_takeSecondDigit cX4_takeSecondDigit 3 none rm_X4_takeSecondDigit G [.ref (xa G Q0), .int a1] M h (QV1 G h P9) := by
  unfold f_X4_takeSecondDigit at hf
  refine xm_v1 (by decide) (Nat.le_of_ble_eq_true rfl) ?_
  intro p e s m args below meth c ls Q C hE hret hP hS hl
  have C : CallFix p m c cX4_takeSecondDigit 3 s args TB RX4 := C
  have hx := C.1
  have hb := C.2.1
  have hl : lv_has ls 3 [(0, .ref (xa G Q0)), (1, .int a1)] := hl
  refine lv_aload_n hx hb dX4_takeSecondDigit_0 rfl (lv_at hl 0 rfl) ?_
  refine gfX4_30 hQ0 C hE hP dX4_takeSecondDigit_1 ?_
  refine lv_iconst (v := 1) hx hb dX4_takeSecondDigit_4 (by decide) ?_
  refine lv_isub hx hb dX4_takeSecondDigit_5 ?_
  refine lv_istore_n (lv' := [(2, .int ((M Q0 2) - 1)), (0, .ref (xa G Q0)), (1, .int a1)]) hx hb dX4_takeSecondDigit_6 rfl hl (by decide) rfl (fun ls hl => ?_)
  refine lv_iload_n hx hb dX4_takeSecondDigit_7 rfl (lv_at hl 0 rfl) ?_
  refine xj (fun (M3 : Mem) => ∀ (H : Heap) (locs : List Loc) (ls : Array Slot), va_P G.1 vwCl (wl G M3 h) H → va_S (Aw G) s.heap H locs → lv_has ls 3 [] → W p l e rm_X4_takeSecondDigit s m args below meth c H locs 0 0 Q (F0 m 28 ls [])) hf ?_ (fun hf => ?_)
  · rintro M3 hf H locs ls hP hS hl
    exact hret _ _ _ _ _ (OB_some hf) hP hS dX4_takeSecondDigit_28
  · skip
    refine lv_if_lt (tgt := 28) hx hb dX4_takeSecondDigit_8 (by decide) (fun hc => ?_) (fun hc => ?_)
    · have hf := (OB_t hf hc)
      exact (OB_some hf) _ _ _ hP hS (lv_sub hl [] rfl)
    · have hf := (OB_f hf hc)
      refine lv_aload_n hx hb dX4_takeSecondDigit_11 rfl (lv_at hl 1 rfl) ?_
      refine gfX4_16 hQ0 C hE hP dX4_takeSecondDigit_12 ?_
      refine lv_iload_n hx hb dX4_takeSecondDigit_15 rfl (lv_at hl 0 rfl) ?_
      refine lv_bipush (v := 10) hx hb dX4_takeSecondDigit_16 (by decide) ?_
      refine lv_aload_n hx hb dX4_takeSecondDigit_18 rfl (lv_at hl 1 rfl) ?_
      refine gfX4_16 hQ0 C hE hP dX4_takeSecondDigit_19 ?_
      refine lv_iload_n hx hb dX4_takeSecondDigit_22 rfl (lv_at hl 0 rfl) ?_
      obtain ⟨g4, hf⟩ := OB_g hf
      refine x_iald C hE hP (sh_L3 hQ0) g4 dX4_takeSecondDigit_23 ?_
      refine lv_imul hx hb dX4_takeSecondDigit_24 ?_
      refine lv_iload_n hx hb dX4_takeSecondDigit_25 rfl (lv_at hl 2 rfl) ?_
      refine lv_iadd hx hb dX4_takeSecondDigit_26 ?_
      refine x_iast C hE hP hS (sh_L3 hQ0) g4 dX4_takeSecondDigit_27 (fun H locs hP hS => ?_)
      exact (OB_some hf) _ _ _ hP hS (lv_sub hl [] rfl)
def rm_X4_take : Room := { frames := 4, cells := 0, slots := 0, locals := 91 }
set_option maxRecDepth 100000 in
set_option maxHeartbeats 8000000 in
theorem c_X4_take {l : Launch} {G : GG} {Q0 : Nat} {a1 : Int32} {a2 : Int32} {M : Mem} {h : Int64} (hQ0 : isLaw Q0) {P9 : Mem → Prop} (hf : OB (f_X4_take Q0 a1 a2 M) P9) : Met1 l yX4_take cX4_take 3 none rm_X4_take G [.ref (xa G Q0), .int a1, .int a2] M h (QV1 G h P9) := by
  unfold f_X4_take at hf
  refine xm_v1 (by decide) (Nat.le_of_ble_eq_true rfl) ?_
  intro p e s m args below meth c ls Q C hE hret hP hS hl
  have C : CallFix p m c cX4_take 3 s args TB RX4 := C
  have hx := C.1
  have hb := C.2.1
  have hl : lv_has ls 3 [(0, .ref (xa G Q0)), (1, .int a1), (2, .int a2)] := hl
  refine lv_iload_n hx hb dX4_take_0 rfl (lv_at hl 1 rfl) ?_
  refine xj (fun (M17 : Mem) => ∀ (H : Heap) (locs : List Loc) (ls : Array Slot), va_P G.1 vwCl (wl G M17 h) H → va_S (Aw G) s.heap H locs → lv_has ls 3 [] → W p l e rm_X4_take s m args below meth c H locs 0 0 Q (F0 m 182 ls [])) hf ?_ (fun hf => ?_)
  · rintro M17 hf H locs ls hP hS hl
    exact hret _ _ _ _ _ (OB_some hf) hP hS dX4_take_182
  · skip
    by_cases hs1_0 : a1 = 1
    · have hf := OB_t hf hs1_0
      refine lv_tableIn (off := 51) (tgt := 52) hx hb dX4_take_1 (by rw [hs1_0]; decide) (by rw [hs1_0]; decide) (by rw [hs1_0]; rfl) (by decide) ?_
      refine lv_aload_n hx hb dX4_take_52 rfl (lv_at hl 0 rfl) ?_
      refine va_ldcS hx hb C.2.2.2.1 hE.2.2.2.1.2.2.2 dX4_take_53 ?_
      refine lv_iload_n hx hb dX4_take_55 rfl (lv_at hl 2 rfl) ?_
      refine x_i2c C dX4_take_56 ?_
      refine x_ci0 (rest := [.ref (xa G Q0)]) (x_runVS C hE hP hS ykJ0_indexOf_0f7a4 lkX4_53 (by decide) rfl (c_J0_indexOf_0f7a4 (by decide) (OB_bind hf)) (by decide) rfl hl.1 (Nat.le_of_ble_eq_true rfl) dX4_take_57) hS (fun r18 H locs hf hP hS => ?_)
      refine pfX4_58 hQ0 C hE hP hS dX4_take_60 (fun H locs hP hS => ?_)
      refine lv_goto (tgt := 182) hx hb dX4_take_63 (by decide) ?_
      exact (OB_some hf) _ _ _ hP hS (lv_sub hl [] rfl)
    · have hf := OB_f hf hs1_0
      by_cases hs1_1 : a1 = 2
      · have hf := OB_t hf hs1_1
        refine lv_tableIn (off := 181) (tgt := 182) hx hb dX4_take_1 (by rw [hs1_1]; decide) (by rw [hs1_1]; decide) (by rw [hs1_1]; rfl) (by decide) ?_
        exact (OB_some hf) _ _ _ hP hS (lv_sub hl [] rfl)
      · have hf := OB_f hf hs1_1
        by_cases hs1_2 : a1 = 3
        · have hf := OB_t hf hs1_2
          refine lv_tableIn (off := 65) (tgt := 66) hx hb dX4_take_1 (by rw [hs1_2]; decide) (by rw [hs1_2]; decide) (by rw [hs1_2]; rfl) (by decide) ?_
          refine lv_aload_n hx hb dX4_take_66 rfl (lv_at hl 0 rfl) ?_
          refine lv_bipush (v := 10) hx hb dX4_take_67 (by decide) ?_
          refine lv_aload_n hx hb dX4_take_69 rfl (lv_at hl 0 rfl) ?_
          refine gfX4_26 hQ0 C hE hP dX4_take_70 ?_
          refine lv_imul hx hb dX4_take_73 ?_
          refine lv_iload_n hx hb dX4_take_74 rfl (lv_at hl 2 rfl) ?_
          refine lv_iadd hx hb dX4_take_75 ?_
          refine lv_bipush (v := 48) hx hb dX4_take_76 (by decide) ?_
          refine lv_isub hx hb dX4_take_78 ?_
          refine pfX4_26 hQ0 C hE hP hS dX4_take_79 (fun H locs hP hS => ?_)
          refine lv_goto (tgt := 182) hx hb dX4_take_82 (by decide) ?_
          exact (OB_some hf) _ _ _ hP hS (lv_sub hl [] rfl)
        · have hf := OB_f hf hs1_2
          by_cases hs1_3 : a1 = 4
          · have hf := OB_t hf hs1_3
            refine lv_tableIn (off := 65) (tgt := 66) hx hb dX4_take_1 (by rw [hs1_3]; decide) (by rw [hs1_3]; decide) (by rw [hs1_3]; rfl) (by decide) ?_
            refine lv_aload_n hx hb dX4_take_66 rfl (lv_at hl 0 rfl) ?_
            refine lv_bipush (v := 10) hx hb dX4_take_67 (by decide) ?_
            refine lv_aload_n hx hb dX4_take_69 rfl (lv_at hl 0 rfl) ?_
            refine gfX4_26 hQ0 C hE hP dX4_take_70 ?_
            refine lv_imul hx hb dX4_take_73 ?_
            refine lv_iload_n hx hb dX4_take_74 rfl (lv_at hl 2 rfl) ?_
            refine lv_iadd hx hb dX4_take_75 ?_
            refine lv_bipush (v := 48) hx hb dX4_take_76 (by decide) ?_
            refine lv_isub hx hb dX4_take_78 ?_
            refine pfX4_26 hQ0 C hE hP hS dX4_take_79 (fun H locs hP hS => ?_)
            refine lv_goto (tgt := 182) hx hb dX4_take_82 (by decide) ?_
            exact (OB_some hf) _ _ _ hP hS (lv_sub hl [] rfl)
          · have hf := OB_f hf hs1_3
            by_cases hs1_4 : a1 = 5
            · have hf := OB_t hf hs1_4
              refine lv_tableIn (off := 84) (tgt := 85) hx hb dX4_take_1 (by rw [hs1_4]; decide) (by rw [hs1_4]; decide) (by rw [hs1_4]; rfl) (by decide) ?_
              refine lv_aload_n hx hb dX4_take_85 rfl (lv_at hl 0 rfl) ?_
              refine lv_iload_n hx hb dX4_take_86 rfl (lv_at hl 2 rfl) ?_
              refine x_cv1 (rest := []) (x_runV C hE hP hS ykX4_takeAheadOfFactor lkX4_61 (sh_L hQ0) rfl (c_X4_takeAheadOfFactor hQ0 (OB_bind hf)) (by decide) rfl hl.1 (Nat.le_of_ble_eq_true rfl) dX4_take_87) hS (fun M19 H locs hf hP hS => ?_)
              refine lv_goto (tgt := 182) hx hb dX4_take_90 (by decide) ?_
              exact (OB_some hf) _ _ _ hP hS (lv_sub hl [] rfl)
            · have hf := OB_f hf hs1_4
              by_cases hs1_5 : a1 = 6
              · have hf := OB_t hf hs1_5
                refine lv_tableIn (off := 92) (tgt := 93) hx hb dX4_take_1 (by rw [hs1_5]; decide) (by rw [hs1_5]; decide) (by rw [hs1_5]; rfl) (by decide) ?_
                refine lv_aload_n hx hb dX4_take_93 rfl (lv_at hl 0 rfl) ?_
                refine gfX4_9 hQ0 C hE hP dX4_take_94 ?_
                refine lv_aload_n hx hb dX4_take_97 rfl (lv_at hl 0 rfl) ?_
                refine gfX4_30 hQ0 C hE hP dX4_take_98 ?_
                refine lv_iload_n hx hb dX4_take_101 rfl (lv_at hl 2 rfl) ?_
                obtain ⟨g20, hf⟩ := OB_g hf
                refine x_iast C hE hP hS (sh_L1 hQ0) g20 dX4_take_102 (fun H locs hP hS => ?_)
                refine lv_aload_n hx hb dX4_take_103 rfl (lv_at hl 0 rfl) ?_
                refine gfX4_19 hQ0 C hE hP dX4_take_104 ?_
                refine lv_aload_n hx hb dX4_take_107 rfl (lv_at hl 0 rfl) ?_
                refine gfX4_30 hQ0 C hE hP dX4_take_108 ?_
                refine lv_aload_n hx hb dX4_take_111 rfl (lv_at hl 0 rfl) ?_
                refine gfX4_65 hQ0 C hE hP dX4_take_112 ?_
                obtain ⟨g21, hf⟩ := OB_g hf
                refine x_zast C hE hP hS (sh_L4 hQ0) (vz_and ((up M (Q0 + 1) (Int32.toNatClampNeg (M Q0 2)) a2) Q0 3)) g21 dX4_take_115 (fun H locs hP hS => ?_)
                refine lv_aload_n hx hb dX4_take_116 rfl (lv_at hl 0 rfl) ?_
                refine gfX4_23 hQ0 C hE hP dX4_take_117 ?_
                refine lv_aload_n hx hb dX4_take_120 rfl (lv_at hl 0 rfl) ?_
                refine gfX4_30 hQ0 C hE hP dX4_take_121 ?_
                refine lv_aload_n hx hb dX4_take_124 rfl (lv_at hl 0 rfl) ?_
                refine gfX4_69 hQ0 C hE hP dX4_take_125 ?_
                obtain ⟨g22, hf⟩ := OB_g hf
                refine x_zast C hE hP hS (sh_L5 hQ0) (vz_and ((up (up M (Q0 + 1) (Int32.toNatClampNeg (M Q0 2)) a2) (Q0 + 4) (Int32.toNatClampNeg ((up M (Q0 + 1) (Int32.toNatClampNeg (M Q0 2)) a2) Q0 2)) (((up M (Q0 + 1) (Int32.toNatClampNeg (M Q0 2)) a2) Q0 3) &&& 1)) Q0 4)) g22 dX4_take_128 (fun H locs hP hS => ?_)
                refine lv_goto (tgt := 182) hx hb dX4_take_129 (by decide) ?_
                exact (OB_some hf) _ _ _ hP hS (lv_sub hl [] rfl)
              · have hf := OB_f hf hs1_5
                by_cases hs1_6 : a1 = 7
                · have hf := OB_t hf hs1_6
                  refine lv_tableIn (off := 131) (tgt := 132) hx hb dX4_take_1 (by rw [hs1_6]; decide) (by rw [hs1_6]; decide) (by rw [hs1_6]; rfl) (by decide) ?_
                  refine lv_aload_n hx hb dX4_take_132 rfl (lv_at hl 0 rfl) ?_
                  refine gfX4_13 hQ0 C hE hP dX4_take_133 ?_
                  refine lv_aload_n hx hb dX4_take_136 rfl (lv_at hl 0 rfl) ?_
                  refine gfX4_30 hQ0 C hE hP dX4_take_137 ?_
                  refine lv_iload_n hx hb dX4_take_140 rfl (lv_at hl 2 rfl) ?_
                  obtain ⟨g23, hf⟩ := OB_g hf
                  refine x_iast C hE hP hS (sh_L2 hQ0) g23 dX4_take_141 (fun H locs hP hS => ?_)
                  refine lv_goto (tgt := 182) hx hb dX4_take_142 (by decide) ?_
                  exact (OB_some hf) _ _ _ hP hS (lv_sub hl [] rfl)
                · have hf := OB_f hf hs1_6
                  by_cases hs1_7 : a1 = 8
                  · have hf := OB_t hf hs1_7
                    refine lv_tableIn (off := 144) (tgt := 145) hx hb dX4_take_1 (by rw [hs1_7]; decide) (by rw [hs1_7]; decide) (by rw [hs1_7]; rfl) (by decide) ?_
                    refine lv_aload_n hx hb dX4_take_145 rfl (lv_at hl 0 rfl) ?_
                    refine gfX4_16 hQ0 C hE hP dX4_take_146 ?_
                    refine lv_aload_n hx hb dX4_take_149 rfl (lv_at hl 0 rfl) ?_
                    refine gfX4_30 hQ0 C hE hP dX4_take_150 ?_
                    refine lv_iload_n hx hb dX4_take_153 rfl (lv_at hl 2 rfl) ?_
                    refine lv_bipush (v := 48) hx hb dX4_take_154 (by decide) ?_
                    refine lv_isub hx hb dX4_take_156 ?_
                    obtain ⟨g24, hf⟩ := OB_g hf
                    refine x_iast C hE hP hS (sh_L3 hQ0) g24 dX4_take_157 (fun H locs hP hS => ?_)
                    refine lv_aload_n hx hb dX4_take_158 rfl (lv_at hl 0 rfl) ?_
                    refine lv_dup hx hb dX4_take_159 rfl ?_
                    refine gfX4_30 hQ0 C hE hP dX4_take_160 ?_
                    refine lv_iconst (v := 1) hx hb dX4_take_163 (by decide) ?_
                    refine lv_iadd hx hb dX4_take_164 ?_
                    refine pfX4_30 hQ0 C hE hP hS dX4_take_165 (fun H locs hP hS => ?_)
                    refine lv_goto (tgt := 182) hx hb dX4_take_168 (by decide) ?_
                    exact (OB_some hf) _ _ _ hP hS (lv_sub hl [] rfl)
                  · have hf := OB_f hf hs1_7
                    by_cases hs1_8 : a1 = 9
                    · have hf := OB_t hf hs1_8
                      refine lv_tableIn (off := 170) (tgt := 171) hx hb dX4_take_1 (by rw [hs1_8]; decide) (by rw [hs1_8]; decide) (by rw [hs1_8]; rfl) (by decide) ?_
                      refine lv_aload_n hx hb dX4_take_171 rfl (lv_at hl 0 rfl) ?_
                      refine lv_iload_n hx hb dX4_take_172 rfl (lv_at hl 2 rfl) ?_
                      refine lv_bipush (v := 48) hx hb dX4_take_173 (by decide) ?_
                      refine lv_isub hx hb dX4_take_175 ?_
                      refine x_cv1 (rest := []) (x_runV C hE hP hS ykX4_takeSecondDigit lkX4_72 (sh_L hQ0) rfl (c_X4_takeSecondDigit hQ0 (OB_bind hf)) (by decide) rfl hl.1 (Nat.le_of_ble_eq_true rfl) dX4_take_176) hS (fun M25 H locs hf hP hS => ?_)
                      refine lv_goto (tgt := 182) hx hb dX4_take_179 (by decide) ?_
                      exact (OB_some hf) _ _ _ hP hS (lv_sub hl [] rfl)
                    · have hf := OB_f hf hs1_8
                      refine lv_tableOut (tgt := 182) hx hb dX4_take_1 (by have n0 := lv_neT hs1_0 (by decide : (1 : Int32).toInt = 1); have n1 := lv_neT hs1_1 (by decide : (2 : Int32).toInt = 2); have n2 := lv_neT hs1_2 (by decide : (3 : Int32).toInt = 3); have n3 := lv_neT hs1_3 (by decide : (4 : Int32).toInt = 4); have n4 := lv_neT hs1_4 (by decide : (5 : Int32).toInt = 5); have n5 := lv_neT hs1_5 (by decide : (6 : Int32).toInt = 6); have n6 := lv_neT hs1_6 (by decide : (7 : Int32).toInt = 7); have n7 := lv_neT hs1_7 (by decide : (8 : Int32).toInt = 8); have n8 := lv_neT hs1_8 (by decide : (9 : Int32).toInt = 9); omega) (by decide) ?_
                      exact (OB_some hf) _ _ _ hP hS (lv_sub hl [] rfl)
def rm_X6_letterAt : Room := { frames := 0, cells := 0, slots := 0, locals := 0 }
set_option maxRecDepth 100000 in
set_option maxHeartbeats 8000000 in
theorem c_X6_letterAt {l : Launch} {G : GG} {a1 : Int32} {M : Mem} {h : Int64}  {P9 : Int32 → Prop} (hf : OB (f_X6_letterAt a1 M) P9) : Met1 l yX6_letterAt cX6_letterAt 2 (some .int) rm_X6_letterAt G [.ref (xa G 10), .int a1] M h (QI0 G M h P9) := by
  unfold f_X6_letterAt at hf
  refine xm_i0 (by decide) (Nat.le_of_ble_eq_true rfl) ?_
  intro p e s m args below meth c ls Q C hE hret hP hS hl
  have C : CallFix p m c cX6_letterAt 2 s args TB RX6 := C
  have hx := C.1
  have hb := C.2.1
  have hl : lv_has ls 2 [(0, .ref (xa G 10)), (1, .int a1)] := hl
  refine lv_aload_n hx hb dX6_letterAt_0 rfl (lv_at hl 0 rfl) ?_
  refine gfX6_11 C hE hP dX6_letterAt_1 ?_
  refine lv_iload_n hx hb dX6_letterAt_4 rfl (lv_at hl 1 rfl) ?_
  obtain ⟨g1, hf⟩ := OB_g hf
  refine x_iald C hE hP sh11 g1 dX6_letterAt_5 ?_
  exact hret _ _ _ _ _ (OB_some hf) hP hS dX6_letterAt_6
def rm_X6_behindFactor : Room := { frames := 0, cells := 0, slots := 0, locals := 0 }
set_option maxRecDepth 100000 in
set_option maxHeartbeats 8000000 in
theorem c_X6_behindFactor {l : Launch} {G : GG} {a0 : Int32} {M : Mem} {h : Int64}  {P9 : Int32 → Prop} (hf : OB (f_X6_behindFactor a0) P9) : Met1 l yX6_behindFactor cX6_behindFactor 1 (some .int) rm_X6_behindFactor G [.int a0] M h (QI0 G M h P9) := by
  unfold f_X6_behindFactor at hf
  refine xm_i0 (by decide) (Nat.le_of_ble_eq_true rfl) ?_
  intro p e s m args below meth c ls Q C hE hret hP hS hl
  have C : CallFix p m c cX6_behindFactor 1 s args TB RX6 := C
  have hx := C.1
  have hb := C.2.1
  have hl : lv_has ls 1 [(0, .int a0)] := hl
  refine lv_iload_n hx hb dX6_behindFactor_0 rfl (lv_at hl 0 rfl) ?_
  refine lv_bipush (v := 38) hx hb dX6_behindFactor_1 (by decide) ?_
  refine xj (fun (x1 : Int32) => ∀ (H : Heap) (locs : List Loc) (ls : Array Slot), va_P G.1 vwCl (wl G M h) H → va_S (Aw G) s.heap H locs → lv_has ls 1 [] → W p l e rm_X6_behindFactor s m args below meth c H locs 0 0 Q (F0 m 17 ls [.int x1])) hf ?_ (fun hf => ?_)
  · rintro x1 hf H locs ls hP hS hl
    exact hret _ _ _ _ _ (OB_some hf) hP hS dX6_behindFactor_17
  · skip
    refine lv_icmp_eq (tgt := 12) hx hb dX6_behindFactor_3 (by decide) (fun hc => ?_) (fun hc => ?_)
    · have hf := (OB_t hf hc)
      refine lv_iconst (v := 5) hx hb dX6_behindFactor_12 (by decide) ?_
      refine lv_goto (tgt := 17) hx hb dX6_behindFactor_13 (by decide) ?_
      exact (OB_some hf) _ _ _ hP hS (lv_sub hl [] rfl)
    · have hf := (OB_f hf hc)
      refine lv_iload_n hx hb dX6_behindFactor_6 rfl (lv_at hl 0 rfl) ?_
      refine lv_bipush (v := 124) hx hb dX6_behindFactor_7 (by decide) ?_
      refine lv_icmp_ne (tgt := 16) hx hb dX6_behindFactor_9 (by decide) (fun hc => ?_) (fun hc => ?_)
      · have hf := (OB_f hf hc)
        refine lv_iconst (v := -1) hx hb dX6_behindFactor_16 (by decide) ?_
        exact (OB_some hf) _ _ _ hP hS (lv_sub hl [] rfl)
      · have hf := (OB_t hf hc)
        refine lv_iconst (v := 5) hx hb dX6_behindFactor_12 (by decide) ?_
        refine lv_goto (tgt := 17) hx hb dX6_behindFactor_13 (by decide) ?_
        exact (OB_some hf) _ _ _ hP hS (lv_sub hl [] rfl)
def rm_X6_behindNumber : Room := { frames := 0, cells := 0, slots := 0, locals := 0 }
set_option maxRecDepth 100000 in
set_option maxHeartbeats 8000000 in
theorem c_X6_behindNumber {l : Launch} {G : GG} {a0 : Int32} {M : Mem} {h : Int64}  {P9 : Int32 → Prop} (hf : OB (f_X6_behindNumber a0) P9) : Met1 l yX6_behindNumber cX6_behindNumber 1 (some .int) rm_X6_behindNumber G [.int a0] M h (QI0 G M h P9) := by
  unfold f_X6_behindNumber at hf
  refine xm_i0 (by decide) (Nat.le_of_ble_eq_true rfl) ?_
  intro p e s m args below meth c ls Q C hE hret hP hS hl
  have C : CallFix p m c cX6_behindNumber 1 s args TB RX6 := C
  have hx := C.1
  have hb := C.2.1
  have hl : lv_has ls 1 [(0, .int a0)] := hl
  refine lv_iload_n hx hb dX6_behindNumber_0 rfl (lv_at hl 0 rfl) ?_
  refine lv_bipush (v := 63) hx hb dX6_behindNumber_1 (by decide) ?_
  refine xj (fun (x1 : Int32) => ∀ (H : Heap) (locs : List Loc) (ls : Array Slot), va_P G.1 vwCl (wl G M h) H → va_S (Aw G) s.heap H locs → lv_has ls 1 [] → W p l e rm_X6_behindNumber s m args below meth c H locs 0 0 Q (F0 m 11 ls [.int x1])) hf ?_ (fun hf => ?_)
  · rintro x1 hf H locs ls hP hS hl
    exact hret _ _ _ _ _ (OB_some hf) hP hS dX6_behindNumber_11
  · skip
    refine lv_icmp_ne (tgt := 10) hx hb dX6_behindNumber_3 (by decide) (fun hc => ?_) (fun hc => ?_)
    · have hf := (OB_f hf hc)
      refine lv_iconst (v := -1) hx hb dX6_behindNumber_10 (by decide) ?_
      exact (OB_some hf) _ _ _ hP hS (lv_sub hl [] rfl)
    · have hf := (OB_t hf hc)
      refine lv_iconst (v := 5) hx hb dX6_behindNumber_6 (by decide) ?_
      refine lv_goto (tgt := 11) hx hb dX6_behindNumber_7 (by decide) ?_
      exact (OB_some hf) _ _ _ hP hS (lv_sub hl [] rfl)
def rm_X6_isDigit : Room := { frames := 0, cells := 0, slots := 0, locals := 0 }
set_option maxRecDepth 100000 in
set_option maxHeartbeats 8000000 in
theorem c_X6_isDigit {l : Launch} {G : GG} {a0 : Int32} {M : Mem} {h : Int64}  {P9 : Bool → Prop} (hf : OB (f_X6_isDigit a0) P9) : Met1 l yX6_isDigit cX6_isDigit 1 (some .boolean) rm_X6_isDigit G [.int a0] M h (QZ0 G M h P9) := by
  unfold f_X6_isDigit at hf
  refine xm_z0 (by decide) (Nat.le_of_ble_eq_true rfl) ?_
  intro p e s m args below meth c ls Q C hE hret hP hS hl
  have C : CallFix p m c cX6_isDigit 1 s args TB RX6 := C
  have hx := C.1
  have hb := C.2.1
  have hl : lv_has ls 1 [(0, .int a0)] := hl
  refine lv_iload_n hx hb dX6_isDigit_0 rfl (lv_at hl 0 rfl) ?_
  refine lv_bipush (v := 48) hx hb dX6_isDigit_1 (by decide) ?_
  refine xj (fun (x1 : Bool) => ∀ (H : Heap) (locs : List Loc) (ls : Array Slot), va_P G.1 vwCl (wl G M h) H → va_S (Aw G) s.heap H locs → lv_has ls 1 [] → W p l e rm_X6_isDigit s m args below meth c H locs 0 0 Q (F0 m 17 ls [.int (bI x1)])) hf ?_ (fun hf => ?_)
  · rintro x1 hf H locs ls hP hS hl
    exact hret _ _ _ _ _ (OB_some hf) hP hS dX6_isDigit_17
  · skip
    refine lv_icmp_lt (tgt := 16) hx hb dX6_isDigit_3 (by decide) (fun hc => ?_) (fun hc => ?_)
    · have hf := (OB_t hf hc)
      refine lv_iconst (v := 0) hx hb dX6_isDigit_16 (by decide) ?_
      refine W.eq (g2 := F0 m 17 ls [.int (bI false)]) rfl ?_
      exact (OB_some hf) _ _ _ hP hS (lv_sub hl [] rfl)
    · have hf := (OB_f hf hc)
      refine lv_iload_n hx hb dX6_isDigit_6 rfl (lv_at hl 0 rfl) ?_
      refine lv_bipush (v := 57) hx hb dX6_isDigit_7 (by decide) ?_
      refine lv_icmp_gt (tgt := 16) hx hb dX6_isDigit_9 (by decide) (fun hc => ?_) (fun hc => ?_)
      · have hf := (OB_t hf hc)
        refine lv_iconst (v := 0) hx hb dX6_isDigit_16 (by decide) ?_
        refine W.eq (g2 := F0 m 17 ls [.int (bI false)]) rfl ?_
        exact (OB_some hf) _ _ _ hP hS (lv_sub hl [] rfl)
      · have hf := (OB_f hf hc)
        refine lv_iconst (v := 1) hx hb dX6_isDigit_12 (by decide) ?_
        refine lv_goto (tgt := 17) hx hb dX6_isDigit_13 (by decide) ?_
        refine W.eq (g2 := F0 m 17 ls [.int (bI true)]) rfl ?_
        exact (OB_some hf) _ _ _ hP hS (lv_sub hl [] rfl)
def rm_X6_isOneOf : Room := { frames := 4, cells := 0, slots := 0, locals := 91 }
set_option maxRecDepth 100000 in
set_option maxHeartbeats 8000000 in
theorem c_X6_isOneOf {l : Launch} {G : GG} {a0 : Int32} {k1 : Nat} {M : Mem} {h : Int64} (hk1 : k1 < 3) {P9 : Bool → Prop} (hf : OB (f_X6_isOneOf a0 k1) P9) : Met1 l yX6_isOneOf cX6_isOneOf 2 (some .boolean) rm_X6_isOneOf G [.int a0, .ref (gK G k1)] M h (QZ0 G M h P9) := by
  unfold f_X6_isOneOf at hf
  refine xm_z0 (by decide) (Nat.le_of_ble_eq_true rfl) ?_
  intro p e s m args below meth c ls Q C hE hret hP hS hl
  have C : CallFix p m c cX6_isOneOf 2 s args TB RX6 := C
  have hx := C.1
  have hb := C.2.1
  have hl : lv_has ls 2 [(0, .int a0), (1, .ref (gK G k1))] := hl
  refine lv_aload_n hx hb dX6_isOneOf_0 rfl (lv_at hl 1 rfl) ?_
  refine lv_iload_n hx hb dX6_isOneOf_1 rfl (lv_at hl 0 rfl) ?_
  refine x_i2c C dX6_isOneOf_2 ?_
  refine x_ci0 (rest := []) (x_runVS C hE hP hS ykJ0_indexOf_0f7a4 lkX6_56 hk1 rfl (c_J0_indexOf_0f7a4 hk1 (OB_bind hf)) (by decide) rfl hl.1 (Nat.le_of_ble_eq_true rfl) dX6_isOneOf_3) hS (fun r1 H locs hf hP hS => ?_)
  refine xj (fun (x2 : Bool) => ∀ (H : Heap) (locs : List Loc) (ls : Array Slot), va_P G.1 vwCl (wl G M h) H → va_S (Aw G) s.heap H locs → lv_has ls 2 [] → W p l e rm_X6_isOneOf s m args below meth c H locs 0 0 Q (F0 m 14 ls [.int (bI x2)])) hf ?_ (fun hf => ?_)
  · rintro x2 hf H locs ls hP hS hl
    exact hret _ _ _ _ _ (OB_some hf) hP hS dX6_isOneOf_14
  · skip
    refine lv_if_lt (tgt := 13) hx hb dX6_isOneOf_6 (by decide) (fun hc => ?_) (fun hc => ?_)
    · have hf := (OB_t hf hc)
      refine lv_iconst (v := 0) hx hb dX6_isOneOf_13 (by decide) ?_
      refine W.eq (g2 := F0 m 14 ls [.int (bI false)]) rfl ?_
      exact (OB_some hf) _ _ _ hP hS (lv_sub hl [] rfl)
    · have hf := (OB_f hf hc)
      refine lv_iconst (v := 1) hx hb dX6_isOneOf_9 (by decide) ?_
      refine lv_goto (tgt := 14) hx hb dX6_isOneOf_10 (by decide) ?_
      refine W.eq (g2 := F0 m 14 ls [.int (bI true)]) rfl ?_
      exact (OB_some hf) _ _ _ hP hS (lv_sub hl [] rfl)
def rm_X6_next : Room := { frames := 5, cells := 0, slots := 0, locals := 112 }
set_option maxRecDepth 100000 in
set_option maxHeartbeats 8000000 in
theorem c_X6_next {l : Launch} {G : GG} {a0 : Int32} {a1 : Int32} {M : Mem} {h : Int64}  {P9 : Int32 → Prop} (hf : OB (f_X6_next a0 a1) P9) : Met1 l yX6_next cX6_next 2 (some .int) rm_X6_next G [.int a0, .int a1] M h (QI0 G M h P9) := by
  unfold f_X6_next at hf
  refine xm_i0 (by decide) (Nat.le_of_ble_eq_true rfl) ?_
  intro p e s m args below meth c ls Q C hE hret hP hS hl
  have C : CallFix p m c cX6_next 2 s args TB RX6 := C
  have hx := C.1
  have hb := C.2.1
  have hl : lv_has ls 2 [(0, .int a0), (1, .int a1)] := hl
  refine lv_iload_n hx hb dX6_next_0 rfl (lv_at hl 0 rfl) ?_
  by_cases hs1_0 : a0 = 0
  · have hf := OB_t hf hs1_0
    refine lv_tableIn (off := 55) (tgt := 56) hx hb dX6_next_1 (by rw [hs1_0]; decide) (by rw [hs1_0]; decide) (by rw [hs1_0]; rfl) (by decide) ?_
    refine lv_iload_n hx hb dX6_next_56 rfl (lv_at hl 1 rfl) ?_
    refine va_ldcS hx hb C.2.2.2.1 hE.2.2.2.1.1 dX6_next_57 ?_
    refine x_cz0 (rest := []) (x_runS C hE hP hS ykX6_isOneOf lkX6_37 (c_X6_isOneOf (by decide) (OB_bind hf)) (by decide) rfl hl.1 (Nat.le_of_ble_eq_true rfl) dX6_next_59) hS (fun r1 H locs hf hP hS => ?_)
    refine xj (fun (x2 : Int32) => ∀ (H : Heap) (locs : List Loc) (ls : Array Slot), va_P G.1 vwCl (wl G M h) H → va_S (Aw G) s.heap H locs → lv_has ls 2 [] → W p l e rm_X6_next s m args below meth c H locs 0 0 Q (F0 m 70 ls [.int x2])) hf ?_ (fun hf => ?_)
    · rintro x2 hf H locs ls hP hS hl
      exact hret _ _ _ _ _ (OB_some hf) hP hS dX6_next_70
    · skip
      refine lv_if_eq (tgt := 69) hx hb dX6_next_62 (by decide) (fun hc => ?_) (fun hc => ?_)
      · have hf := (OB_f hf (bI_f hc))
        refine lv_iconst (v := -1) hx hb dX6_next_69 (by decide) ?_
        exact (OB_some hf) _ _ _ hP hS (lv_sub hl [] rfl)
      · have hf := (OB_t hf (bI_t hc))
        refine lv_iconst (v := 1) hx hb dX6_next_65 (by decide) ?_
        refine lv_goto (tgt := 70) hx hb dX6_next_66 (by decide) ?_
        exact (OB_some hf) _ _ _ hP hS (lv_sub hl [] rfl)
  · have hf := OB_f hf hs1_0
    by_cases hs1_1 : a0 = 1
    · have hf := OB_t hf hs1_1
      refine lv_tableIn (off := 70) (tgt := 71) hx hb dX6_next_1 (by rw [hs1_1]; decide) (by rw [hs1_1]; decide) (by rw [hs1_1]; rfl) (by decide) ?_
      refine lv_iload_n hx hb dX6_next_71 rfl (lv_at hl 1 rfl) ?_
      refine lv_bipush (v := 58) hx hb dX6_next_72 (by decide) ?_
      refine xj (fun (x3 : Int32) => ∀ (H : Heap) (locs : List Loc) (ls : Array Slot), va_P G.1 vwCl (wl G M h) H → va_S (Aw G) s.heap H locs → lv_has ls 2 [] → W p l e rm_X6_next s m args below meth c H locs 0 0 Q (F0 m 82 ls [.int x3])) hf ?_ (fun hf => ?_)
      · rintro x3 hf H locs ls hP hS hl
        exact hret _ _ _ _ _ (OB_some hf) hP hS dX6_next_82
      · skip
        refine lv_icmp_ne (tgt := 81) hx hb dX6_next_74 (by decide) (fun hc => ?_) (fun hc => ?_)
        · have hf := (OB_f hf hc)
          refine lv_iconst (v := -1) hx hb dX6_next_81 (by decide) ?_
          exact (OB_some hf) _ _ _ hP hS (lv_sub hl [] rfl)
        · have hf := (OB_t hf hc)
          refine lv_iconst (v := 2) hx hb dX6_next_77 (by decide) ?_
          refine lv_goto (tgt := 82) hx hb dX6_next_78 (by decide) ?_
          exact (OB_some hf) _ _ _ hP hS (lv_sub hl [] rfl)
    · have hf := OB_f hf hs1_1
      by_cases hs1_2 : a0 = 2
      · have hf := OB_t hf hs1_2
        refine lv_tableIn (off := 82) (tgt := 83) hx hb dX6_next_1 (by rw [hs1_2]; decide) (by rw [hs1_2]; decide) (by rw [hs1_2]; rfl) (by decide) ?_
        refine lv_iload_n hx hb dX6_next_83 rfl (lv_at hl 1 rfl) ?_
        refine x_cz0 (rest := []) (x_runS C hE hP hS ykX6_isDigit lkX6_41 (c_X6_isDigit (OB_bind hf)) (by decide) rfl hl.1 (Nat.le_of_ble_eq_true rfl) dX6_next_84) hS (fun r4 H locs hf hP hS => ?_)
        refine xj (fun (x5 : Int32) => ∀ (H : Heap) (locs : List Loc) (ls : Array Slot), va_P G.1 vwCl (wl G M h) H → va_S (Aw G) s.heap H locs → lv_has ls 2 [] → W p l e rm_X6_next s m args below meth c H locs 0 0 Q (F0 m 95 ls [.int x5])) hf ?_ (fun hf => ?_)
        · rintro x5 hf H locs ls hP hS hl
          exact hret _ _ _ _ _ (OB_some hf) hP hS dX6_next_95
        · skip
          refine lv_if_eq (tgt := 94) hx hb dX6_next_87 (by decide) (fun hc => ?_) (fun hc => ?_)
          · have hf := (OB_f hf (bI_f hc))
            refine lv_iconst (v := -1) hx hb dX6_next_94 (by decide) ?_
            exact (OB_some hf) _ _ _ hP hS (lv_sub hl [] rfl)
          · have hf := (OB_t hf (bI_t hc))
            refine lv_iconst (v := 3) hx hb dX6_next_90 (by decide) ?_
            refine lv_goto (tgt := 95) hx hb dX6_next_91 (by decide) ?_
            exact (OB_some hf) _ _ _ hP hS (lv_sub hl [] rfl)
      · have hf := OB_f hf hs1_2
        by_cases hs1_3 : a0 = 3
        · have hf := OB_t hf hs1_3
          refine lv_tableIn (off := 95) (tgt := 96) hx hb dX6_next_1 (by rw [hs1_3]; decide) (by rw [hs1_3]; decide) (by rw [hs1_3]; rfl) (by decide) ?_
          refine lv_iload_n hx hb dX6_next_96 rfl (lv_at hl 1 rfl) ?_
          refine x_cz0 (rest := []) (x_runS C hE hP hS ykX6_isDigit lkX6_41 (c_X6_isDigit (OB_bind hf)) (by decide) rfl hl.1 (Nat.le_of_ble_eq_true rfl) dX6_next_97) hS (fun r6 H locs hf hP hS => ?_)
          refine xj (fun (x9 : Int32) => ∀ (H : Heap) (locs : List Loc) (ls : Array Slot), va_P G.1 vwCl (wl G M h) H → va_S (Aw G) s.heap H locs → lv_has ls 2 [] → W p l e rm_X6_next s m args below meth c H locs 0 0 Q (F0 m 111 ls [.int x9])) hf ?_ (fun hf => ?_)
          · rintro x9 hf H locs ls hP hS hl
            exact hret _ _ _ _ _ (OB_some hf) hP hS dX6_next_111
          · skip
            refine lv_if_eq (tgt := 107) hx hb dX6_next_100 (by decide) (fun hc => ?_) (fun hc => ?_)
            · have hf := (OB_f hf (bI_f hc))
              refine lv_iload_n hx hb dX6_next_107 rfl (lv_at hl 1 rfl) ?_
              refine x_ci0 (rest := []) (x_runS C hE hP hS ykX6_behindNumber lkX6_45 (c_X6_behindNumber (OB_bind hf)) (by decide) rfl hl.1 (Nat.le_of_ble_eq_true rfl) dX6_next_108) hS (fun r10 H locs hf hP hS => ?_)
              exact (OB_some hf) _ _ _ hP hS (lv_sub hl [] rfl)
            · have hf := (OB_t hf (bI_t hc))
              refine lv_iconst (v := 4) hx hb dX6_next_103 (by decide) ?_
              refine lv_goto (tgt := 111) hx hb dX6_next_104 (by decide) ?_
              exact (OB_some hf) _ _ _ hP hS (lv_sub hl [] rfl)
        · have hf := OB_f hf hs1_3
          by_cases hs1_4 : a0 = 4
          · have hf := OB_t hf hs1_4
            refine lv_tableIn (off := 111) (tgt := 112) hx hb dX6_next_1 (by rw [hs1_4]; decide) (by rw [hs1_4]; decide) (by rw [hs1_4]; rfl) (by decide) ?_
            refine lv_iload_n hx hb dX6_next_112 rfl (lv_at hl 1 rfl) ?_
            refine x_ci0 (rest := []) (x_runS C hE hP hS ykX6_behindNumber lkX6_45 (c_X6_behindNumber (OB_bind hf)) (by decide) rfl hl.1 (Nat.le_of_ble_eq_true rfl) dX6_next_113) hS (fun r11 H locs hf hP hS => ?_)
            exact hret _ _ _ _ _ (OB_some hf) hP hS dX6_next_116
          · have hf := OB_f hf hs1_4
            by_cases hs1_5 : a0 = 5
            · have hf := OB_t hf hs1_5
              refine lv_tableIn (off := 116) (tgt := 117) hx hb dX6_next_1 (by rw [hs1_5]; decide) (by rw [hs1_5]; decide) (by rw [hs1_5]; rfl) (by decide) ?_
              refine lv_iload_n hx hb dX6_next_117 rfl (lv_at hl 1 rfl) ?_
              refine lv_bipush (v := 33) hx hb dX6_next_118 (by decide) ?_
              refine xj (fun (x14 : Int32) => ∀ (H : Heap) (locs : List Loc) (ls : Array Slot), va_P G.1 vwCl (wl G M h) H → va_S (Aw G) s.heap H locs → lv_has ls 2 [] → W p l e rm_X6_next s m args below meth c H locs 0 0 Q (F0 m 142 ls [.int x14])) hf ?_ (fun hf => ?_)
              · rintro x14 hf H locs ls hP hS hl
                exact hret _ _ _ _ _ (OB_some hf) hP hS dX6_next_142
              · skip
                refine lv_icmp_ne (tgt := 127) hx hb dX6_next_120 (by decide) (fun hc => ?_) (fun hc => ?_)
                · have hf := (OB_f hf hc)
                  refine lv_iload_n hx hb dX6_next_127 rfl (lv_at hl 1 rfl) ?_
                  refine va_ldcS hx hb C.2.2.2.1 hE.2.2.2.1.2.1 dX6_next_128 ?_
                  refine x_cz0 (rest := []) (x_runS C hE hP hS ykX6_isOneOf lkX6_37 (c_X6_isOneOf (by decide) (OB_bind hf)) (by decide) rfl hl.1 (Nat.le_of_ble_eq_true rfl) dX6_next_130) hS (fun r15 H locs hf hP hS => ?_)
                  refine lv_if_eq (tgt := 141) hx hb dX6_next_133 (by decide) (fun hc => ?_) (fun hc => ?_)
                  · have hf := (OB_f hf (bI_f hc))
                    refine lv_iconst (v := -1) hx hb dX6_next_141 (by decide) ?_
                    exact (OB_some hf) _ _ _ hP hS (lv_sub hl [] rfl)
                  · have hf := (OB_t hf (bI_t hc))
                    refine lv_bipush (v := 6) hx hb dX6_next_136 (by decide) ?_
                    refine lv_goto (tgt := 142) hx hb dX6_next_138 (by decide) ?_
                    exact (OB_some hf) _ _ _ hP hS (lv_sub hl [] rfl)
                · have hf := (OB_t hf hc)
                  refine lv_iconst (v := 5) hx hb dX6_next_123 (by decide) ?_
                  refine lv_goto (tgt := 142) hx hb dX6_next_124 (by decide) ?_
                  exact (OB_some hf) _ _ _ hP hS (lv_sub hl [] rfl)
            · have hf := OB_f hf hs1_5
              by_cases hs1_6 : a0 = 6
              · have hf := OB_t hf hs1_6
                refine lv_tableIn (off := 142) (tgt := 143) hx hb dX6_next_1 (by rw [hs1_6]; decide) (by rw [hs1_6]; decide) (by rw [hs1_6]; rfl) (by decide) ?_
                refine lv_iload_n hx hb dX6_next_143 rfl (lv_at hl 1 rfl) ?_
                refine va_ldcS hx hb C.2.2.2.1 hE.2.2.2.1.2.2.1 dX6_next_144 ?_
                refine x_cz0 (rest := []) (x_runS C hE hP hS ykX6_isOneOf lkX6_37 (c_X6_isOneOf (by decide) (OB_bind hf)) (by decide) rfl hl.1 (Nat.le_of_ble_eq_true rfl) dX6_next_146) hS (fun r16 H locs hf hP hS => ?_)
                refine xj (fun (x17 : Int32) => ∀ (H : Heap) (locs : List Loc) (ls : Array Slot), va_P G.1 vwCl (wl G M h) H → va_S (Aw G) s.heap H locs → lv_has ls 2 [] → W p l e rm_X6_next s m args below meth c H locs 0 0 Q (F0 m 158 ls [.int x17])) hf ?_ (fun hf => ?_)
                · rintro x17 hf H locs ls hP hS hl
                  exact hret _ _ _ _ _ (OB_some hf) hP hS dX6_next_158
                · skip
                  refine lv_if_eq (tgt := 157) hx hb dX6_next_149 (by decide) (fun hc => ?_) (fun hc => ?_)
                  · have hf := (OB_f hf (bI_f hc))
                    refine lv_iconst (v := -1) hx hb dX6_next_157 (by decide) ?_
                    exact (OB_some hf) _ _ _ hP hS (lv_sub hl [] rfl)
                  · have hf := (OB_t hf (bI_t hc))
                    refine lv_bipush (v := 7) hx hb dX6_next_152 (by decide) ?_
                    refine lv_goto (tgt := 158) hx hb dX6_next_154 (by decide) ?_
                    exact (OB_some hf) _ _ _ hP hS (lv_sub hl [] rfl)
              · have hf := OB_f hf hs1_6
                by_cases hs1_7 : a0 = 7
                · have hf := OB_t hf hs1_7
                  refine lv_tableIn (off := 158) (tgt := 159) hx hb dX6_next_1 (by rw [hs1_7]; decide) (by rw [hs1_7]; decide) (by rw [hs1_7]; rfl) (by decide) ?_
                  refine lv_iload_n hx hb dX6_next_159 rfl (lv_at hl 1 rfl) ?_
                  refine x_cz0 (rest := []) (x_runS C hE hP hS ykX6_isDigit lkX6_41 (c_X6_isDigit (OB_bind hf)) (by decide) rfl hl.1 (Nat.le_of_ble_eq_true rfl) dX6_next_160) hS (fun r18 H locs hf hP hS => ?_)
                  refine xj (fun (x19 : Int32) => ∀ (H : Heap) (locs : List Loc) (ls : Array Slot), va_P G.1 vwCl (wl G M h) H → va_S (Aw G) s.heap H locs → lv_has ls 2 [] → W p l e rm_X6_next s m args below meth c H locs 0 0 Q (F0 m 172 ls [.int x19])) hf ?_ (fun hf => ?_)
                  · rintro x19 hf H locs ls hP hS hl
                    exact hret _ _ _ _ _ (OB_some hf) hP hS dX6_next_172
                  · skip
                    refine lv_if_eq (tgt := 171) hx hb dX6_next_163 (by decide) (fun hc => ?_) (fun hc => ?_)
                    · have hf := (OB_f hf (bI_f hc))
                      refine lv_iconst (v := -1) hx hb dX6_next_171 (by decide) ?_
                      exact (OB_some hf) _ _ _ hP hS (lv_sub hl [] rfl)
                    · have hf := (OB_t hf (bI_t hc))
                      refine lv_bipush (v := 8) hx hb dX6_next_166 (by decide) ?_
                      refine lv_goto (tgt := 172) hx hb dX6_next_168 (by decide) ?_
                      exact (OB_some hf) _ _ _ hP hS (lv_sub hl [] rfl)
                · have hf := OB_f hf hs1_7
                  by_cases hs1_8 : a0 = 8
                  · have hf := OB_t hf hs1_8
                    refine lv_tableIn (off := 172) (tgt := 173) hx hb dX6_next_1 (by rw [hs1_8]; decide) (by rw [hs1_8]; decide) (by rw [hs1_8]; rfl) (by decide) ?_
                    refine lv_iload_n hx hb dX6_next_173 rfl (lv_at hl 1 rfl) ?_
                    refine x_cz0 (rest := []) (x_runS C hE hP hS ykX6_isDigit lkX6_41 (c_X6_isDigit (OB_bind hf)) (by decide) rfl hl.1 (Nat.le_of_ble_eq_true rfl) dX6_next_174) hS (fun r20 H locs hf hP hS => ?_)
                    refine xj (fun (x23 : Int32) => ∀ (H : Heap) (locs : List Loc) (ls : Array Slot), va_P G.1 vwCl (wl G M h) H → va_S (Aw G) s.heap H locs → lv_has ls 2 [] → W p l e rm_X6_next s m args below meth c H locs 0 0 Q (F0 m 189 ls [.int x23])) hf ?_ (fun hf => ?_)
                    · rintro x23 hf H locs ls hP hS hl
                      exact hret _ _ _ _ _ (OB_some hf) hP hS dX6_next_189
                    · skip
                      refine lv_if_eq (tgt := 185) hx hb dX6_next_177 (by decide) (fun hc => ?_) (fun hc => ?_)
                      · have hf := (OB_f hf (bI_f hc))
                        refine lv_iload_n hx hb dX6_next_185 rfl (lv_at hl 1 rfl) ?_
                        refine x_ci0 (rest := []) (x_runS C hE hP hS ykX6_behindFactor lkX6_53 (c_X6_behindFactor (OB_bind hf)) (by decide) rfl hl.1 (Nat.le_of_ble_eq_true rfl) dX6_next_186) hS (fun r24 H locs hf hP hS => ?_)
                        exact (OB_some hf) _ _ _ hP hS (lv_sub hl [] rfl)
                      · have hf := (OB_t hf (bI_t hc))
                        refine lv_bipush (v := 9) hx hb dX6_next_180 (by decide) ?_
                        refine lv_goto (tgt := 189) hx hb dX6_next_182 (by decide) ?_
                        exact (OB_some hf) _ _ _ hP hS (lv_sub hl [] rfl)
                  · have hf := OB_f hf hs1_8
                    by_cases hs1_9 : a0 = 9
                    · have hf := OB_t hf hs1_9
                      refine lv_tableIn (off := 189) (tgt := 190) hx hb dX6_next_1 (by rw [hs1_9]; decide) (by rw [hs1_9]; decide) (by rw [hs1_9]; rfl) (by decide) ?_
                      refine lv_iload_n hx hb dX6_next_190 rfl (lv_at hl 1 rfl) ?_
                      refine x_ci0 (rest := []) (x_runS C hE hP hS ykX6_behindFactor lkX6_53 (c_X6_behindFactor (OB_bind hf)) (by decide) rfl hl.1 (Nat.le_of_ble_eq_true rfl) dX6_next_191) hS (fun r25 H locs hf hP hS => ?_)
                      exact hret _ _ _ _ _ (OB_some hf) hP hS dX6_next_194
                    · have hf := OB_f hf hs1_9
                      refine lv_tableOut (tgt := 195) hx hb dX6_next_1 (by have n0 := lv_neT hs1_0 (by decide : (0 : Int32).toInt = 0); have n1 := lv_neT hs1_1 (by decide : (1 : Int32).toInt = 1); have n2 := lv_neT hs1_2 (by decide : (2 : Int32).toInt = 2); have n3 := lv_neT hs1_3 (by decide : (3 : Int32).toInt = 3); have n4 := lv_neT hs1_4 (by decide : (4 : Int32).toInt = 4); have n5 := lv_neT hs1_5 (by decide : (5 : Int32).toInt = 5); have n6 := lv_neT hs1_6 (by decide : (6 : Int32).toInt = 6); have n7 := lv_neT hs1_7 (by decide : (7 : Int32).toInt = 7); have n8 := lv_neT hs1_8 (by decide : (8 : Int32).toInt = 8); have n9 := lv_neT hs1_9 (by decide : (9 : Int32).toInt = 9); omega) (by decide) ?_
                      refine lv_iconst (v := -1) hx hb dX6_next_195 (by decide) ?_
                      exact hret _ _ _ _ _ (OB_some hf) hP hS dX6_next_196
def rm_X6_size : Room := { frames := 0, cells := 0, slots := 0, locals := 0 }
set_option maxRecDepth 100000 in
set_option maxHeartbeats 8000000 in
theorem c_X6_size {l : Launch} {G : GG}  {M : Mem} {h : Int64}  {P9 : Int32 → Prop} (hf : OB (f_X6_size M) P9) : Met1 l yX6_size cX6_size 1 (some .int) rm_X6_size G [.ref (xa G 10)] M h (QI0 G M h P9) := by
  unfold f_X6_size at hf
  refine xm_i0 (by decide) (Nat.le_of_ble_eq_true rfl) ?_
  intro p e s m args below meth c ls Q C hE hret hP hS hl
  have C : CallFix p m c cX6_size 1 s args TB RX6 := C
  have hx := C.1
  have hb := C.2.1
  have hl : lv_has ls 1 [(0, .ref (xa G 10))] := hl
  refine lv_aload_n hx hb dX6_size_0 rfl (lv_at hl 0 rfl) ?_
  refine gfX6_15 C hE hP dX6_size_1 ?_
  exact hret _ _ _ _ _ (OB_some hf) hP hS dX6_size_4
