def rm_X12_east : Room := { frames := 0, cells := 0, slots := 0, locals := 0 }
set_option maxRecDepth 100000 in
set_option maxHeartbeats 8000000 in
theorem c_X12_east {l : Launch} {G : GG} {a0 : Int32} {a1 : Int32} {M : Mem} {h : Int64}  {P9 : Int32 → Prop} (hf : OB (f_X12_east a0 a1) P9) : Met1 l yX12_east cX12_east 2 (some .int) rm_X12_east G [.int a0, .int a1] M h (QI0 G M h P9) := by
  unfold f_X12_east at hf
  refine xm_i0 (by decide) (Nat.le_of_ble_eq_true rfl) ?_
  intro p e s m args below meth c ls Q C hE hret hP hS hl
  have C : CallFix p m c cX12_east 2 s args TB RX12 := C
  have hx := C.1
  have hb := C.2.1
  have hl : lv_has ls 2 [(0, .int a0), (1, .int a1)] := hl
  refine lv_iload_n hx hb dX12_east_0 rfl (lv_at hl 0 rfl) ?_
  refine lv_bipush (v := 16) hx hb dX12_east_1 (by decide) ?_
  refine lv_idiv hx hb dX12_east_3 (by decide) ?_
  refine lv_bipush (v := 16) hx hb dX12_east_4 (by decide) ?_
  refine lv_imul hx hb dX12_east_6 ?_
  refine lv_iload_n hx hb dX12_east_7 rfl (lv_at hl 0 rfl) ?_
  refine lv_bipush (v := 16) hx hb dX12_east_8 (by decide) ?_
  refine x_irem C dX12_east_10 (by decide) ?_
  refine lv_iload_n hx hb dX12_east_11 rfl (lv_at hl 1 rfl) ?_
  refine lv_iadd hx hb dX12_east_12 ?_
  refine lv_bipush (v := 16) hx hb dX12_east_13 (by decide) ?_
  refine lv_iadd hx hb dX12_east_15 ?_
  refine lv_bipush (v := 16) hx hb dX12_east_16 (by decide) ?_
  refine x_irem C dX12_east_18 (by decide) ?_
  refine lv_iadd hx hb dX12_east_19 ?_
  exact hret _ _ _ _ _ (OB_some hf) hP hS dX12_east_20
def rm_X12_overlap : Room := { frames := 0, cells := 0, slots := 0, locals := 0 }
set_option maxRecDepth 100000 in
set_option maxHeartbeats 8000000 in
theorem c_X12_overlap {l : Launch} {G : GG}  {M : Mem} {h : Int64}  {P9 : Int32 → Prop} (hf : OB (f_X12_overlap M) P9) : Met1 l yX12_overlap cX12_overlap 3 (some .int) rm_X12_overlap G [.ref (xa G 132)] M h (QI0 G M h P9) := by
  unfold f_X12_overlap at hf
  refine xm_i0 (by decide) (Nat.le_of_ble_eq_true rfl) ?_
  intro p e s m args below meth c ls Q C hE hret hP hS hl
  have C : CallFix p m c cX12_overlap 3 s args TB RX12 := C
  have hx := C.1
  have hb := C.2.1
  have hl : lv_has ls 3 [(0, .ref (xa G 132))] := hl
  refine lv_iconst (v := 0) hx hb dX12_overlap_0 (by decide) ?_
  refine lv_istore_n (lv' := [(1, .int 0), (0, .ref (xa G 132))]) hx hb dX12_overlap_1 rfl hl (by decide) rfl (fun ls hl => ?_)
  refine lv_iconst (v := 0) hx hb dX12_overlap_2 (by decide) ?_
  refine lv_istore_n (lv' := [(2, .int 0), (1, .int 0), (0, .ref (xa G 132))]) hx hb dX12_overlap_3 rfl hl (by decide) rfl (fun ls hl => ?_)
  refine xj (fun (x15 : Int32) => ∀ (H : Heap) (locs : List Loc) (ls : Array Slot), va_P G.1 vwCl (wl G M h) H → va_S (Aw G) s.heap H locs → lv_has ls 3 [(1, .int x15)] → W p l e rm_X12_overlap s m args below meth c H locs 0 0 Q (F0 m 35 ls [])) hf ?_ (fun hf => ?_)
  · rintro x15 hf H locs ls hP hS hl
    refine lv_iload_n hx hb dX12_overlap_35 rfl (lv_at hl 0 rfl) ?_
    exact hret _ _ _ _ _ (OB_some hf) hP hS dX12_overlap_36
  · refine (it_W (fun (zz : (Int32 × Int32)) => match zz with | (x13, x14) => ∀ (H : Heap) (locs : List Loc) (ls : Array Slot), va_P G.1 vwCl (wl G M h) H → va_S (Aw G) s.heap H locs → lv_has ls 3 [(0, .ref (xa G 132)), (1, .int x13), (2, .int x14)] → W p l e rm_X12_overlap s m args below meth c H locs 0 0 Q (F0 m 4 ls [])) hf ?_) _ _ _ hP hS (lv_sub hl [2, 1, 0] rfl)
    rintro ⟨x13, x14⟩ hf H locs ls hP hS hl
    unfold f_X12_overlap_b4 at hf
    refine lv_iload_n hx hb dX12_overlap_4 rfl (lv_at hl 2 rfl) ?_
    refine lv_sipush (v := 128) hx hb dX12_overlap_5 (by decide) ?_
    refine lv_icmp_ge (tgt := 35) hx hb dX12_overlap_8 (by decide) (fun hc => ?_) (fun hc => ?_)
    · have hf := (OB_t hf hc)
      exact (it_e hf) _ _ _ hP hS (lv_sub hl [1] rfl)
    · have hf := (OB_f hf hc)
      refine lv_iload_n hx hb dX12_overlap_11 rfl (lv_at hl 1 rfl) ?_
      refine lv_aload_n hx hb dX12_overlap_12 rfl (lv_at hl 0 rfl) ?_
      refine gfX12_22 C hE hP dX12_overlap_13 ?_
      refine lv_iload_n hx hb dX12_overlap_16 rfl (lv_at hl 2 rfl) ?_
      obtain ⟨g16, hf⟩ := OB_g hf
      refine x_iald C hE hP sh137 g16 dX12_overlap_17 ?_
      refine lv_iconst (v := 3) hx hb dX12_overlap_18 (by decide) ?_
      refine xj (fun (x17 : Bool) => ∀ (H : Heap) (locs : List Loc) (ls : Array Slot), va_P G.1 vwCl (wl G M h) H → va_S (Aw G) s.heap H locs → lv_has ls 3 [(0, .ref (xa G 132)), (2, .int x14)] → W p l e rm_X12_overlap s m args below meth c H locs 0 0 Q (F0 m 27 ls [.int (bI x17), .int x13])) hf ?_ (fun hf => ?_)
      · rintro x17 hf H locs ls hP hS hl
        refine lv_iadd hx hb dX12_overlap_27 ?_
        refine lv_istore_n (lv' := [(1, .int (x13 + (bI x17))), (0, .ref (xa G 132)), (2, .int x14)]) hx hb dX12_overlap_28 rfl hl (by decide) rfl (fun ls hl => ?_)
        refine lv_iinc (v := (x14 + 1)) (lv' := [(2, .int (x14 + 1)), (1, .int (x13 + (bI x17))), (0, .ref (xa G 132))]) hx hb dX12_overlap_29 hl (k := 2) rfl rfl (by decide) rfl (fun ls hl => ?_)
        refine lv_goto (tgt := 4) hx hb dX12_overlap_32 (by decide) ?_
        exact (it_c hf) _ _ _ hP hS (lv_sub hl [2, 1, 0] rfl)
      · skip
        refine lv_icmp_ne (tgt := 26) hx hb dX12_overlap_19 (by decide) (fun hc => ?_) (fun hc => ?_)
        · have hf := (OB_f hf hc)
          refine lv_iconst (v := 0) hx hb dX12_overlap_26 (by decide) ?_
          refine W.eq (g2 := F0 m 27 ls [.int (bI false), .int x13]) rfl ?_
          exact (OB_some hf) _ _ _ hP hS (lv_sub hl [0, 2] rfl)
        · have hf := (OB_t hf hc)
          refine lv_iconst (v := 1) hx hb dX12_overlap_22 (by decide) ?_
          refine lv_goto (tgt := 27) hx hb dX12_overlap_23 (by decide) ?_
          refine W.eq (g2 := F0 m 27 ls [.int (bI true), .int x13]) rfl ?_
          exact (OB_some hf) _ _ _ hP hS (lv_sub hl [0, 2] rfl)
def rm_X12_touch : Room := { frames := 1, cells := 0, slots := 0, locals := 21 }
set_option maxRecDepth 100000 in
set_option maxHeartbeats 8000000 in
theorem c_X12_touch {l : Launch} {G : GG}  {M : Mem} {h : Int64}  {P9 : Int32 → Prop} (hf : OB (f_X12_touch M) P9) : Met1 l yX12_touch cX12_touch 3 (some .int) rm_X12_touch G [.ref (xa G 132)] M h (QI0 G M h P9) := by
  unfold f_X12_touch at hf
  refine xm_i0 (by decide) (Nat.le_of_ble_eq_true rfl) ?_
  intro p e s m args below meth c ls Q C hE hret hP hS hl
  have C : CallFix p m c cX12_touch 3 s args TB RX12 := C
  have hx := C.1
  have hb := C.2.1
  have hl : lv_has ls 3 [(0, .ref (xa G 132))] := hl
  refine lv_iconst (v := 0) hx hb dX12_touch_0 (by decide) ?_
  refine lv_istore_n (lv' := [(1, .int 0), (0, .ref (xa G 132))]) hx hb dX12_touch_1 rfl hl (by decide) rfl (fun ls hl => ?_)
  refine lv_iconst (v := 0) hx hb dX12_touch_2 (by decide) ?_
  refine lv_istore_n (lv' := [(2, .int 0), (1, .int 0), (0, .ref (xa G 132))]) hx hb dX12_touch_3 rfl hl (by decide) rfl (fun ls hl => ?_)
  refine xj (fun (x51 : Int32) => ∀ (H : Heap) (locs : List Loc) (ls : Array Slot), va_P G.1 vwCl (wl G M h) H → va_S (Aw G) s.heap H locs → lv_has ls 3 [(1, .int x51)] → W p l e rm_X12_touch s m args below meth c H locs 0 0 Q (F0 m 57 ls [])) hf ?_ (fun hf => ?_)
  · rintro x51 hf H locs ls hP hS hl
    refine lv_iload_n hx hb dX12_touch_57 rfl (lv_at hl 0 rfl) ?_
    exact hret _ _ _ _ _ (OB_some hf) hP hS dX12_touch_58
  · refine (it_W (fun (zz : (Int32 × Int32)) => match zz with | (x49, x50) => ∀ (H : Heap) (locs : List Loc) (ls : Array Slot), va_P G.1 vwCl (wl G M h) H → va_S (Aw G) s.heap H locs → lv_has ls 3 [(0, .ref (xa G 132)), (1, .int x49), (2, .int x50)] → W p l e rm_X12_touch s m args below meth c H locs 0 0 Q (F0 m 4 ls [])) hf ?_) _ _ _ hP hS (lv_sub hl [2, 1, 0] rfl)
    rintro ⟨x49, x50⟩ hf H locs ls hP hS hl
    unfold f_X12_touch_b4 at hf
    refine lv_iload_n hx hb dX12_touch_4 rfl (lv_at hl 2 rfl) ?_
    refine lv_sipush (v := 128) hx hb dX12_touch_5 (by decide) ?_
    refine lv_icmp_ge (tgt := 57) hx hb dX12_touch_8 (by decide) (fun hc => ?_) (fun hc => ?_)
    · have hf := (OB_t hf hc)
      exact (it_e hf) _ _ _ hP hS (lv_sub hl [1] rfl)
    · have hf := (OB_f hf hc)
      refine lv_aload_n hx hb dX12_touch_11 rfl (lv_at hl 0 rfl) ?_
      refine gfX12_22 C hE hP dX12_touch_12 ?_
      refine lv_iload_n hx hb dX12_touch_15 rfl (lv_at hl 2 rfl) ?_
      obtain ⟨g52, hf⟩ := OB_g hf
      refine x_iald C hE hP sh137 g52 dX12_touch_16 ?_
      refine lv_iconst (v := 1) hx hb dX12_touch_17 (by decide) ?_
      refine lv_iand hx hb dX12_touch_18 ?_
      refine lv_iconst (v := 1) hx hb dX12_touch_19 (by decide) ?_
      refine xj (fun (x61 : Int32) => ∀ (H : Heap) (locs : List Loc) (ls : Array Slot), va_P G.1 vwCl (wl G M h) H → va_S (Aw G) s.heap H locs → lv_has ls 3 [(0, .ref (xa G 132)), (1, .int x61), (2, .int x50)] → W p l e rm_X12_touch s m args below meth c H locs 0 0 Q (F0 m 51 ls [])) hf ?_ (fun hf => ?_)
      · rintro x61 hf H locs ls hP hS hl
        refine lv_iinc (v := (x50 + 1)) (lv' := [(2, .int (x50 + 1)), (0, .ref (xa G 132)), (1, .int x61)]) hx hb dX12_touch_51 hl (k := 2) rfl rfl (by decide) rfl (fun ls hl => ?_)
        refine lv_goto (tgt := 4) hx hb dX12_touch_54 (by decide) ?_
        exact (it_c hf) _ _ _ hP hS (lv_sub hl [1, 2, 0] rfl)
      · skip
        refine lv_icmp_ne (tgt := 51) hx hb dX12_touch_20 (by decide) (fun hc => ?_) (fun hc => ?_)
        · have hf := (OB_f hf hc)
          exact (OB_some hf) _ _ _ hP hS (lv_sub hl [0, 1, 2] rfl)
        · have hf := (OB_t hf hc)
          refine lv_iload_n hx hb dX12_touch_23 rfl (lv_at hl 1 rfl) ?_
          refine lv_aload_n hx hb dX12_touch_24 rfl (lv_at hl 0 rfl) ?_
          refine gfX12_22 C hE hP dX12_touch_25 ?_
          refine lv_iload_n hx hb dX12_touch_28 rfl (lv_at hl 2 rfl) ?_
          refine lv_iconst (v := 1) hx hb dX12_touch_29 (by decide) ?_
          refine x_ci0 (rest := [.ref (xa G 137), .int x49]) (x_runS C hE hP hS ykX12_east lkX12_145 (c_X12_east (OB_bind hf)) (by decide) rfl hl.1 (Nat.le_of_ble_eq_true rfl) dX12_touch_30) hS (fun r62 H locs hf hP hS => ?_)
          obtain ⟨g63, hf⟩ := OB_g hf
          refine x_iald C hE hP sh137 g63 dX12_touch_33 ?_
          refine lv_iconst (v := 1) hx hb dX12_touch_34 (by decide) ?_
          refine x_ishr C dX12_touch_35 ?_
          refine lv_aload_n hx hb dX12_touch_36 rfl (lv_at hl 0 rfl) ?_
          refine gfX12_22 C hE hP dX12_touch_37 ?_
          refine lv_iload_n hx hb dX12_touch_40 rfl (lv_at hl 2 rfl) ?_
          refine lv_iconst (v := -1) hx hb dX12_touch_41 (by decide) ?_
          refine x_ci0 (rest := [.ref (xa G 137), .int (jshr (M 137 (Int32.toNatClampNeg r62)) 1), .int x49]) (x_runS C hE hP hS ykX12_east lkX12_145 (c_X12_east (OB_bind hf)) (by decide) rfl hl.1 (Nat.le_of_ble_eq_true rfl) dX12_touch_42) hS (fun r64 H locs hf hP hS => ?_)
          obtain ⟨g65, hf⟩ := OB_g hf
          refine x_iald C hE hP sh137 g65 dX12_touch_45 ?_
          refine lv_iconst (v := 1) hx hb dX12_touch_46 (by decide) ?_
          refine x_ishr C dX12_touch_47 ?_
          refine lv_iadd hx hb dX12_touch_48 ?_
          refine lv_iadd hx hb dX12_touch_49 ?_
          refine lv_istore_n (lv' := [(1, .int (x49 + ((jshr (M 137 (Int32.toNatClampNeg r62)) 1) + (jshr (M 137 (Int32.toNatClampNeg r64)) 1)))), (0, .ref (xa G 132)), (2, .int x50)]) hx hb dX12_touch_50 rfl hl (by decide) rfl (fun ls hl => ?_)
          exact (OB_some hf) _ _ _ hP hS (lv_sub hl [1, 0, 2] rfl)
def rm_X12_gapBehind : Room := { frames := 1, cells := 0, slots := 0, locals := 21 }
set_option maxRecDepth 100000 in
set_option maxHeartbeats 8000000 in
theorem c_X12_gapBehind {l : Launch} {G : GG} {a1 : Int32} {M : Mem} {h : Int64}  {P9 : Int32 → Prop} (hf : OB (f_X12_gapBehind a1 M) P9) : Met1 l yX12_gapBehind cX12_gapBehind 5 (some .int) rm_X12_gapBehind G [.ref (xa G 132), .int a1] M h (QI0 G M h P9) := by
  unfold f_X12_gapBehind at hf
  refine xm_i0 (by decide) (Nat.le_of_ble_eq_true rfl) ?_
  intro p e s m args below meth c ls Q C hE hret hP hS hl
  have C : CallFix p m c cX12_gapBehind 5 s args TB RX12 := C
  have hx := C.1
  have hb := C.2.1
  have hl : lv_has ls 5 [(0, .ref (xa G 132)), (1, .int a1)] := hl
  refine lv_iconst (v := 0) hx hb dX12_gapBehind_0 (by decide) ?_
  refine lv_istore_n (lv' := [(2, .int 0), (0, .ref (xa G 132)), (1, .int a1)]) hx hb dX12_gapBehind_1 rfl hl (by decide) rfl (fun ls hl => ?_)
  refine xj (fun (x11 : Int32) => ∀ (H : Heap) (locs : List Loc) (ls : Array Slot), va_P G.1 vwCl (wl G M h) H → va_S (Aw G) s.heap H locs → lv_has ls 5 [(0, .ref (xa G 132)), (1, .int a1), (2, .int x11)] → W p l e rm_X12_gapBehind s m args below meth c H locs 0 0 Q (F0 m 28 ls [])) hf ?_ (fun hf => ?_)
  · rintro x11 hf H locs ls hP hS hl
    refine lv_iload_n hx hb dX12_gapBehind_28 rfl (lv_at hl 2 rfl) ?_
    refine lv_iconst (v := 4) hx hb dX12_gapBehind_29 (by decide) ?_
    refine xj (fun (x18 : Int32) => ∀ (H : Heap) (locs : List Loc) (ls : Array Slot), va_P G.1 vwCl (wl G M h) H → va_S (Aw G) s.heap H locs → lv_has ls 5 [(0, .ref (xa G 132)), (1, .int a1), (2, .int x11)] → W p l e rm_X12_gapBehind s m args below meth c H locs 0 0 Q (F0 m 49 ls [.int x18])) hf ?_ (fun hf => ?_)
    · rintro x18 hf H locs ls hP hS hl
      refine lv_istore_n (lv' := [(3, .int x18), (0, .ref (xa G 132)), (1, .int a1), (2, .int x11)]) hx hb dX12_gapBehind_49 rfl hl (by decide) rfl (fun ls hl => ?_)
      refine lv_aload_n hx hb dX12_gapBehind_50 rfl (lv_at hl 1 rfl) ?_
      refine gfX12_22 C hE hP dX12_gapBehind_51 ?_
      refine lv_iload_n hx hb dX12_gapBehind_54 rfl (lv_at hl 2 rfl) ?_
      obtain ⟨g21, hf⟩ := OB_g hf
      refine x_iald C hE hP sh137 g21 dX12_gapBehind_55 ?_
      refine lv_iconst (v := 1) hx hb dX12_gapBehind_56 (by decide) ?_
      refine lv_iand hx hb dX12_gapBehind_57 ?_
      refine lv_iconst (v := 1) hx hb dX12_gapBehind_58 (by decide) ?_
      refine xj (fun (x22 : Bool) => ∀ (H : Heap) (locs : List Loc) (ls : Array Slot), va_P G.1 vwCl (wl G M h) H → va_S (Aw G) s.heap H locs → lv_has ls 5 [(2, .int x11)] → W p l e rm_X12_gapBehind s m args below meth c H locs 0 0 Q (F0 m 89 ls [.int (bI x22)])) hf ?_ (fun hf => ?_)
      · rintro x22 hf H locs ls hP hS hl
        refine lv_istore (lv' := [(4, .int (bI x22)), (2, .int x11)]) hx hb dX12_gapBehind_89 hl (by decide) rfl (fun ls hl => ?_)
        refine lv_iload hx hb dX12_gapBehind_91 (lv_at hl 0 rfl) ?_
        refine xj (fun (x23 : Int32) => ∀ (H : Heap) (locs : List Loc) (ls : Array Slot), va_P G.1 vwCl (wl G M h) H → va_S (Aw G) s.heap H locs → lv_has ls 5 [] → W p l e rm_X12_gapBehind s m args below meth c H locs 0 0 Q (F0 m 110 ls [.int x23])) hf ?_ (fun hf => ?_)
        · rintro x23 hf H locs ls hP hS hl
          exact hret _ _ _ _ _ (OB_some hf) hP hS dX12_gapBehind_110
        · skip
          refine lv_if_eq (tgt := 109) hx hb dX12_gapBehind_93 (by decide) (fun hc => ?_) (fun hc => ?_)
          · have hf := (OB_f hf (bI_f hc))
            refine lv_iconst (v := 0) hx hb dX12_gapBehind_109 (by decide) ?_
            exact (OB_some hf) _ _ _ hP hS (lv_sub hl [] rfl)
          · have hf := (OB_t hf (bI_t hc))
            refine lv_iload_n hx hb dX12_gapBehind_96 rfl (lv_at hl 1 rfl) ?_
            refine lv_if_le (tgt := 109) hx hb dX12_gapBehind_97 (by decide) (fun hc => ?_) (fun hc => ?_)
            · have hf := (OB_t hf hc)
              refine lv_iconst (v := 0) hx hb dX12_gapBehind_109 (by decide) ?_
              exact (OB_some hf) _ _ _ hP hS (lv_sub hl [] rfl)
            · have hf := (OB_f hf hc)
              refine lv_iload_n hx hb dX12_gapBehind_100 rfl (lv_at hl 1 rfl) ?_
              refine lv_iconst (v := 4) hx hb dX12_gapBehind_101 (by decide) ?_
              refine lv_icmp_ge (tgt := 109) hx hb dX12_gapBehind_102 (by decide) (fun hc => ?_) (fun hc => ?_)
              · have hf := (OB_t hf hc)
                refine lv_iconst (v := 0) hx hb dX12_gapBehind_109 (by decide) ?_
                exact (OB_some hf) _ _ _ hP hS (lv_sub hl [] rfl)
              · have hf := (OB_f hf hc)
                refine lv_iload_n hx hb dX12_gapBehind_105 rfl (lv_at hl 1 rfl) ?_
                refine lv_goto (tgt := 110) hx hb dX12_gapBehind_106 (by decide) ?_
                exact (OB_some hf) _ _ _ hP hS (lv_sub hl [] rfl)
      · skip
        refine lv_icmp_ne (tgt := 67) hx hb dX12_gapBehind_59 (by decide) (fun hc => ?_) (fun hc => ?_)
        · have hf := (OB_f hf hc)
          refine lv_aload_n hx hb dX12_gapBehind_67 rfl (lv_at hl 1 rfl) ?_
          refine gfX12_22 C hE hP dX12_gapBehind_68 ?_
          refine lv_iload_n hx hb dX12_gapBehind_71 rfl (lv_at hl 2 rfl) ?_
          refine x_iald C hE hP sh137 g21 dX12_gapBehind_72 ?_
          refine lv_iconst (v := 1) hx hb dX12_gapBehind_73 (by decide) ?_
          refine lv_icmp_le (tgt := 88) hx hb dX12_gapBehind_74 (by decide) (fun hc => ?_) (fun hc => ?_)
          · have hf := (OB_t hf hc)
            refine lv_iconst (v := 0) hx hb dX12_gapBehind_88 (by decide) ?_
            refine W.eq (g2 := F0 m 89 ls [.int (bI false)]) rfl ?_
            exact (OB_some hf) _ _ _ hP hS (lv_sub hl [3] rfl)
          · have hf := (OB_f hf hc)
            refine lv_iload_n hx hb dX12_gapBehind_77 rfl (lv_at hl 0 rfl) ?_
            refine lv_iconst (v := 1) hx hb dX12_gapBehind_78 (by decide) ?_
            refine lv_iand hx hb dX12_gapBehind_79 ?_
            refine lv_iconst (v := 1) hx hb dX12_gapBehind_80 (by decide) ?_
            refine lv_icmp_ne (tgt := 88) hx hb dX12_gapBehind_81 (by decide) (fun hc => ?_) (fun hc => ?_)
            · have hf := (OB_f hf hc)
              refine lv_iconst (v := 0) hx hb dX12_gapBehind_88 (by decide) ?_
              refine W.eq (g2 := F0 m 89 ls [.int (bI false)]) rfl ?_
              exact (OB_some hf) _ _ _ hP hS (lv_sub hl [3] rfl)
            · have hf := (OB_t hf hc)
              refine lv_iconst (v := 1) hx hb dX12_gapBehind_84 (by decide) ?_
              refine lv_goto (tgt := 89) hx hb dX12_gapBehind_85 (by decide) ?_
              refine W.eq (g2 := F0 m 89 ls [.int (bI true)]) rfl ?_
              exact (OB_some hf) _ _ _ hP hS (lv_sub hl [3] rfl)
        · have hf := (OB_t hf hc)
          refine lv_iload_n hx hb dX12_gapBehind_62 rfl (lv_at hl 0 rfl) ?_
          refine lv_iconst (v := 1) hx hb dX12_gapBehind_63 (by decide) ?_
          refine lv_icmp_gt (tgt := 84) hx hb dX12_gapBehind_64 (by decide) (fun hc => ?_) (fun hc => ?_)
          · have hf := (OB_t hf hc)
            refine lv_iconst (v := 1) hx hb dX12_gapBehind_84 (by decide) ?_
            refine lv_goto (tgt := 89) hx hb dX12_gapBehind_85 (by decide) ?_
            refine W.eq (g2 := F0 m 89 ls [.int (bI true)]) rfl ?_
            exact (OB_some hf) _ _ _ hP hS (lv_sub hl [3] rfl)
          · have hf := (OB_f hf hc)
            refine lv_aload_n hx hb dX12_gapBehind_67 rfl (lv_at hl 1 rfl) ?_
            refine gfX12_22 C hE hP dX12_gapBehind_68 ?_
            refine lv_iload_n hx hb dX12_gapBehind_71 rfl (lv_at hl 2 rfl) ?_
            refine x_iald C hE hP sh137 g21 dX12_gapBehind_72 ?_
            refine lv_iconst (v := 1) hx hb dX12_gapBehind_73 (by decide) ?_
            refine lv_icmp_le (tgt := 88) hx hb dX12_gapBehind_74 (by decide) (fun hc => ?_) (fun hc => ?_)
            · have hf := (OB_t hf hc)
              refine lv_iconst (v := 0) hx hb dX12_gapBehind_88 (by decide) ?_
              refine W.eq (g2 := F0 m 89 ls [.int (bI false)]) rfl ?_
              exact (OB_some hf) _ _ _ hP hS (lv_sub hl [3] rfl)
            · have hf := (OB_f hf hc)
              refine lv_iload_n hx hb dX12_gapBehind_77 rfl (lv_at hl 0 rfl) ?_
              refine lv_iconst (v := 1) hx hb dX12_gapBehind_78 (by decide) ?_
              refine lv_iand hx hb dX12_gapBehind_79 ?_
              refine lv_iconst (v := 1) hx hb dX12_gapBehind_80 (by decide) ?_
              refine lv_icmp_ne (tgt := 88) hx hb dX12_gapBehind_81 (by decide) (fun hc => ?_) (fun hc => ?_)
              · have hf := (OB_f hf hc)
                refine lv_iconst (v := 0) hx hb dX12_gapBehind_88 (by decide) ?_
                refine W.eq (g2 := F0 m 89 ls [.int (bI false)]) rfl ?_
                exact (OB_some hf) _ _ _ hP hS (lv_sub hl [3] rfl)
              · have hf := (OB_t hf hc)
                refine lv_iconst (v := 1) hx hb dX12_gapBehind_84 (by decide) ?_
                refine lv_goto (tgt := 89) hx hb dX12_gapBehind_85 (by decide) ?_
                refine W.eq (g2 := F0 m 89 ls [.int (bI true)]) rfl ?_
                exact (OB_some hf) _ _ _ hP hS (lv_sub hl [3] rfl)
    · skip
      refine lv_icmp_ge (tgt := 48) hx hb dX12_gapBehind_30 (by decide) (fun hc => ?_) (fun hc => ?_)
      · have hf := (OB_t hf hc)
        refine lv_iconst (v := 0) hx hb dX12_gapBehind_48 (by decide) ?_
        exact (OB_some hf) _ _ _ hP hS (lv_sub hl [0, 1, 2] rfl)
      · have hf := (OB_f hf hc)
        refine lv_aload_n hx hb dX12_gapBehind_33 rfl (lv_at hl 0 rfl) ?_
        refine gfX12_22 C hE hP dX12_gapBehind_34 ?_
        refine lv_iload_n hx hb dX12_gapBehind_37 rfl (lv_at hl 1 rfl) ?_
        refine lv_iload_n hx hb dX12_gapBehind_38 rfl (lv_at hl 2 rfl) ?_
        refine lv_iconst (v := 1) hx hb dX12_gapBehind_39 (by decide) ?_
        refine lv_iadd hx hb dX12_gapBehind_40 ?_
        refine x_ci0 (rest := [.ref (xa G 137)]) (x_runS C hE hP hS ykX12_east lkX12_145 (c_X12_east (OB_bind hf)) (by decide) rfl hl.1 (Nat.le_of_ble_eq_true rfl) dX12_gapBehind_41) hS (fun r19 H locs hf hP hS => ?_)
        obtain ⟨g20, hf⟩ := OB_g hf
        refine x_iald C hE hP sh137 g20 dX12_gapBehind_44 ?_
        refine lv_goto (tgt := 49) hx hb dX12_gapBehind_45 (by decide) ?_
        exact (OB_some hf) _ _ _ hP hS (lv_sub hl [0, 1, 2] rfl)
  · refine (it_W (fun (x10 : Int32) => ∀ (H : Heap) (locs : List Loc) (ls : Array Slot), va_P G.1 vwCl (wl G M h) H → va_S (Aw G) s.heap H locs → lv_has ls 5 [(0, .ref (xa G 132)), (1, .int a1), (2, .int x10)] → W p l e rm_X12_gapBehind s m args below meth c H locs 0 0 Q (F0 m 2 ls [])) hf ?_) _ _ _ hP hS (lv_sub hl [1, 2, 0] rfl)
    rintro x10 hf H locs ls hP hS hl
    unfold f_X12_gapBehind_b2 at hf
    refine lv_iload_n hx hb dX12_gapBehind_2 rfl (lv_at hl 2 rfl) ?_
    refine lv_iconst (v := 4) hx hb dX12_gapBehind_3 (by decide) ?_
    refine lv_icmp_ge (tgt := 28) hx hb dX12_gapBehind_4 (by decide) (fun hc => ?_) (fun hc => ?_)
    · have hf := (OB_t hf hc)
      exact (it_e hf) _ _ _ hP hS (lv_sub hl [0, 1, 2] rfl)
    · have hf := (OB_f hf hc)
      refine lv_aload_n hx hb dX12_gapBehind_7 rfl (lv_at hl 0 rfl) ?_
      refine gfX12_22 C hE hP dX12_gapBehind_8 ?_
      refine lv_iload_n hx hb dX12_gapBehind_11 rfl (lv_at hl 1 rfl) ?_
      refine lv_iload_n hx hb dX12_gapBehind_12 rfl (lv_at hl 2 rfl) ?_
      refine lv_iconst (v := 1) hx hb dX12_gapBehind_13 (by decide) ?_
      refine lv_iadd hx hb dX12_gapBehind_14 ?_
      refine x_ci0 (rest := [.ref (xa G 137)]) (x_runS C hE hP hS ykX12_east lkX12_145 (c_X12_east (OB_bind hf)) (by decide) rfl hl.1 (Nat.le_of_ble_eq_true rfl) dX12_gapBehind_15) hS (fun r12 H locs hf hP hS => ?_)
      obtain ⟨g13, hf⟩ := OB_g hf
      refine x_iald C hE hP sh137 g13 dX12_gapBehind_18 ?_
      refine lv_if_ne (tgt := 28) hx hb dX12_gapBehind_19 (by decide) (fun hc => ?_) (fun hc => ?_)
      · have hf := (OB_f hf hc)
        exact (it_e hf) _ _ _ hP hS (lv_sub hl [0, 1, 2] rfl)
      · have hf := (OB_t hf hc)
        refine lv_iinc (v := (x10 + 1)) (lv' := [(2, .int (x10 + 1)), (0, .ref (xa G 132)), (1, .int a1)]) hx hb dX12_gapBehind_22 hl (k := 2) rfl rfl (by decide) rfl (fun ls hl => ?_)
        refine lv_goto (tgt := 2) hx hb dX12_gapBehind_25 (by decide) ?_
        exact (it_c hf) _ _ _ hP hS (lv_sub hl [1, 2, 0] rfl)
def rm_X12_gap : Room := { frames := 2, cells := 0, slots := 0, locals := 45 }
set_option maxRecDepth 100000 in
set_option maxHeartbeats 8000000 in
theorem c_X12_gap {l : Launch} {G : GG}  {M : Mem} {h : Int64}  {P9 : Int32 → Prop} (hf : OB (f_X12_gap M) P9) : Met1 l yX12_gap cX12_gap 3 (some .int) rm_X12_gap G [.ref (xa G 132)] M h (QI0 G M h P9) := by
  unfold f_X12_gap at hf
  refine xm_i0 (by decide) (Nat.le_of_ble_eq_true rfl) ?_
  intro p e s m args below meth c ls Q C hE hret hP hS hl
  have C : CallFix p m c cX12_gap 3 s args TB RX12 := C
  have hx := C.1
  have hb := C.2.1
  have hl : lv_has ls 3 [(0, .ref (xa G 132))] := hl
  refine lv_iconst (v := 0) hx hb dX12_gap_0 (by decide) ?_
  refine lv_istore_n (lv' := [(1, .int 0), (0, .ref (xa G 132))]) hx hb dX12_gap_1 rfl hl (by decide) rfl (fun ls hl => ?_)
  refine lv_iconst (v := 0) hx hb dX12_gap_2 (by decide) ?_
  refine lv_istore_n (lv' := [(2, .int 0), (1, .int 0), (0, .ref (xa G 132))]) hx hb dX12_gap_3 rfl hl (by decide) rfl (fun ls hl => ?_)
  refine xj (fun (x24 : Int32) => ∀ (H : Heap) (locs : List Loc) (ls : Array Slot), va_P G.1 vwCl (wl G M h) H → va_S (Aw G) s.heap H locs → lv_has ls 3 [(1, .int x24)] → W p l e rm_X12_gap s m args below meth c H locs 0 0 Q (F0 m 38 ls [])) hf ?_ (fun hf => ?_)
  · rintro x24 hf H locs ls hP hS hl
    refine lv_iload_n hx hb dX12_gap_38 rfl (lv_at hl 0 rfl) ?_
    exact hret _ _ _ _ _ (OB_some hf) hP hS dX12_gap_39
  · refine (it_W (fun (zz : (Int32 × Int32)) => match zz with | (x22, x23) => ∀ (H : Heap) (locs : List Loc) (ls : Array Slot), va_P G.1 vwCl (wl G M h) H → va_S (Aw G) s.heap H locs → lv_has ls 3 [(0, .ref (xa G 132)), (1, .int x22), (2, .int x23)] → W p l e rm_X12_gap s m args below meth c H locs 0 0 Q (F0 m 4 ls [])) hf ?_) _ _ _ hP hS (lv_sub hl [2, 1, 0] rfl)
    rintro ⟨x22, x23⟩ hf H locs ls hP hS hl
    unfold f_X12_gap_b4 at hf
    refine lv_iload_n hx hb dX12_gap_4 rfl (lv_at hl 2 rfl) ?_
    refine lv_sipush (v := 128) hx hb dX12_gap_5 (by decide) ?_
    refine lv_icmp_ge (tgt := 38) hx hb dX12_gap_8 (by decide) (fun hc => ?_) (fun hc => ?_)
    · have hf := (OB_t hf hc)
      exact (it_e hf) _ _ _ hP hS (lv_sub hl [1] rfl)
    · have hf := (OB_f hf hc)
      refine lv_iload_n hx hb dX12_gap_11 rfl (lv_at hl 1 rfl) ?_
      refine lv_aload_n hx hb dX12_gap_12 rfl (lv_at hl 0 rfl) ?_
      refine gfX12_22 C hE hP dX12_gap_13 ?_
      refine lv_iload_n hx hb dX12_gap_16 rfl (lv_at hl 2 rfl) ?_
      obtain ⟨g25, hf⟩ := OB_g hf
      refine x_iald C hE hP sh137 g25 dX12_gap_17 ?_
      refine xj (fun (x28 : Int32) => ∀ (H : Heap) (locs : List Loc) (ls : Array Slot), va_P G.1 vwCl (wl G M h) H → va_S (Aw G) s.heap H locs → lv_has ls 3 [(0, .ref (xa G 132)), (2, .int x23)] → W p l e rm_X12_gap s m args below meth c H locs 0 0 Q (F0 m 30 ls [.int x28, .int x22])) hf ?_ (fun hf => ?_)
      · rintro x28 hf H locs ls hP hS hl
        refine lv_iadd hx hb dX12_gap_30 ?_
        refine lv_istore_n (lv' := [(1, .int (x22 + x28)), (0, .ref (xa G 132)), (2, .int x23)]) hx hb dX12_gap_31 rfl hl (by decide) rfl (fun ls hl => ?_)
        refine lv_iinc (v := (x23 + 1)) (lv' := [(2, .int (x23 + 1)), (1, .int (x22 + x28)), (0, .ref (xa G 132))]) hx hb dX12_gap_32 hl (k := 2) rfl rfl (by decide) rfl (fun ls hl => ?_)
        refine lv_goto (tgt := 4) hx hb dX12_gap_35 (by decide) ?_
        exact (it_c hf) _ _ _ hP hS (lv_sub hl [2, 1, 0] rfl)
      · skip
        refine lv_if_ne (tgt := 25) hx hb dX12_gap_18 (by decide) (fun hc => ?_) (fun hc => ?_)
        · have hf := (OB_f hf hc)
          refine lv_aload_n hx hb dX12_gap_25 rfl (lv_at hl 0 rfl) ?_
          refine lv_iload_n hx hb dX12_gap_26 rfl (lv_at hl 2 rfl) ?_
          refine x_ci0 (rest := [.int x22]) (x_runV C hE hP hS ykX12_gapBehind lkX12_148 sh132 rfl (c_X12_gapBehind (OB_bind hf)) (by decide) rfl hl.1 (Nat.le_of_ble_eq_true rfl) dX12_gap_27) hS (fun r29 H locs hf hP hS => ?_)
          exact (OB_some hf) _ _ _ hP hS (lv_sub hl [0, 2] rfl)
        · have hf := (OB_t hf hc)
          refine lv_iconst (v := 0) hx hb dX12_gap_21 (by decide) ?_
          refine lv_goto (tgt := 30) hx hb dX12_gap_22 (by decide) ?_
          exact (OB_some hf) _ _ _ hP hS (lv_sub hl [0, 2] rfl)
def rm_X12_cost : Room := { frames := 3, cells := 0, slots := 0, locals := 67 }
set_option maxRecDepth 100000 in
set_option maxHeartbeats 8000000 in
theorem c_X12_cost {l : Launch} {G : GG}  {M : Mem} {h : Int64}  {P9 : Int32 → Prop} (hf : OB (f_X12_cost M) P9) : Met1 l yX12_cost cX12_cost 1 (some .int) rm_X12_cost G [.ref (xa G 132)] M h (QI0 G M h P9) := by
  unfold f_X12_cost at hf
  refine xm_i0 (by decide) (Nat.le_of_ble_eq_true rfl) ?_
  intro p e s m args below meth c ls Q C hE hret hP hS hl
  have C : CallFix p m c cX12_cost 1 s args TB RX12 := C
  have hx := C.1
  have hb := C.2.1
  have hl : lv_has ls 1 [(0, .ref (xa G 132))] := hl
  refine lv_iconst (v := 3) hx hb dX12_cost_0 (by decide) ?_
  refine lv_aload_n hx hb dX12_cost_1 rfl (lv_at hl 0 rfl) ?_
  refine x_ci0 (rest := [.int 3]) (x_runV C hE hP hS ykX12_overlap lkX12_151 sh132 rfl (c_X12_overlap (OB_bind hf)) (by decide) rfl hl.1 (Nat.le_of_ble_eq_true rfl) dX12_cost_2) hS (fun r1 H locs hf hP hS => ?_)
  refine lv_imul hx hb dX12_cost_5 ?_
  refine lv_aload_n hx hb dX12_cost_6 rfl (lv_at hl 0 rfl) ?_
  refine x_ci0 (rest := [.int (3 * r1)]) (x_runV C hE hP hS ykX12_gap lkX12_155 sh132 rfl (c_X12_gap (OB_bind hf)) (by decide) rfl hl.1 (Nat.le_of_ble_eq_true rfl) dX12_cost_7) hS (fun r2 H locs hf hP hS => ?_)
  refine lv_iadd hx hb dX12_cost_10 ?_
  refine lv_aload_n hx hb dX12_cost_11 rfl (lv_at hl 0 rfl) ?_
  refine x_ci0 (rest := [.int ((3 * r1) + r2)]) (x_runV C hE hP hS ykX12_touch lkX12_158 sh132 rfl (c_X12_touch (OB_bind hf)) (by decide) rfl hl.1 (Nat.le_of_ble_eq_true rfl) dX12_cost_12) hS (fun r3 H locs hf hP hS => ?_)
  refine lv_isub hx hb dX12_cost_15 ?_
  exact hret _ _ _ _ _ (OB_some hf) hP hS dX12_cost_16
def rm_X12_isCounted : Room := { frames := 2, cells := 0, slots := 0, locals := 52 }
set_option maxRecDepth 100000 in
set_option maxHeartbeats 8000000 in
theorem c_X12_isCounted {l : Launch} {G : GG} {a1 : Int32} {a2 : Int32} {a3 : Int32} {a4 : Int32} {M : Mem} {h : Int64}  {P9 : (Bool × Mem) → Prop} (hf : OB (f_X12_isCounted a1 a2 a3 a4 M) P9) : Met1 l yX12_isCounted cX12_isCounted 5 (some .boolean) rm_X12_isCounted G [.ref (xa G 132), .int a1, .int a2, .int a3, .int a4] M h (QZ1 G h P9) := by
  unfold f_X12_isCounted at hf
  refine xm_z1 (by decide) (Nat.le_of_ble_eq_true rfl) ?_
  intro p e s m args below meth c ls Q C hE hret hP hS hl
  have C : CallFix p m c cX12_isCounted 5 s args TB RX12 := C
  have hx := C.1
  have hb := C.2.1
  have hl : lv_has ls 5 [(0, .ref (xa G 132)), (1, .int a1), (2, .int a2), (3, .int a3), (4, .int a4)] := hl
  refine lv_aload_n hx hb dX12_isCounted_0 rfl (lv_at hl 0 rfl) ?_
  refine lv_iload_n hx hb dX12_isCounted_1 rfl (lv_at hl 1 rfl) ?_
  refine lv_iload_n hx hb dX12_isCounted_2 rfl (lv_at hl 2 rfl) ?_
  refine lv_iload_n hx hb dX12_isCounted_3 rfl (lv_at hl 3 rfl) ?_
  refine lv_iload hx hb dX12_isCounted_4 (lv_at hl 4 rfl) ?_
  refine x_cz1 (rest := []) (x_runV C hE hP hS ykX12_lay lkX12_161 sh132 rfl (c_X12_lay (OB_bind hf)) (by decide) rfl hl.1 (Nat.le_of_ble_eq_true rfl) dX12_isCounted_6) hS (fun r1 M2 H locs hf hP hS => ?_)
  refine xj (fun (x7 : Bool) => ∀ (H : Heap) (locs : List Loc) (ls : Array Slot), va_P G.1 vwCl (wl G M2 h) H → va_S (Aw G) s.heap H locs → lv_has ls 5 [] → W p l e rm_X12_isCounted s m args below meth c H locs 0 0 Q (F0 m 29 ls [.int (bI x7)])) hf ?_ (fun hf => ?_)
  · rintro x7 hf H locs ls hP hS hl
    exact hret _ _ _ _ _ _ (OB_some hf) hP hS dX12_isCounted_29
  · skip
    refine lv_if_eq (tgt := 28) hx hb dX12_isCounted_9 (by decide) (fun hc => ?_) (fun hc => ?_)
    · have hf := (OB_f hf (bI_f hc))
      refine lv_iconst (v := 0) hx hb dX12_isCounted_28 (by decide) ?_
      refine W.eq (g2 := F0 m 29 ls [.int (bI false)]) rfl ?_
      exact (OB_some hf) _ _ _ hP hS (lv_sub hl [] rfl)
    · have hf := (OB_t hf (bI_t hc))
      refine lv_aload_n hx hb dX12_isCounted_12 rfl (lv_at hl 0 rfl) ?_
      refine x_ci0 (rest := []) (x_runV C hE hP hS ykX12_touch lkX12_158 sh132 rfl (c_X12_touch (OB_bind hf)) (by decide) rfl hl.1 (Nat.le_of_ble_eq_true rfl) dX12_isCounted_13) hS (fun r8 H locs hf hP hS => ?_)
      refine lv_aload_n hx hb dX12_isCounted_16 rfl (lv_at hl 0 rfl) ?_
      refine x_ci0 (rest := [.int r8]) (x_runV C hE hP hS ykX12_overlap lkX12_151 sh132 rfl (c_X12_overlap (OB_bind hf)) (by decide) rfl hl.1 (Nat.le_of_ble_eq_true rfl) dX12_isCounted_17) hS (fun r9 H locs hf hP hS => ?_)
      refine lv_iadd hx hb dX12_isCounted_20 ?_
      refine lv_if_le (tgt := 28) hx hb dX12_isCounted_21 (by decide) (fun hc => ?_) (fun hc => ?_)
      · have hf := (OB_t hf hc)
        refine lv_iconst (v := 0) hx hb dX12_isCounted_28 (by decide) ?_
        refine W.eq (g2 := F0 m 29 ls [.int (bI false)]) rfl ?_
        exact (OB_some hf) _ _ _ hP hS (lv_sub hl [] rfl)
      · have hf := (OB_f hf hc)
        refine lv_iconst (v := 1) hx hb dX12_isCounted_24 (by decide) ?_
        refine lv_goto (tgt := 29) hx hb dX12_isCounted_25 (by decide) ?_
        refine W.eq (g2 := F0 m 29 ls [.int (bI true)]) rfl ?_
        exact (OB_some hf) _ _ _ hP hS (lv_sub hl [] rfl)
def rm_X12_onOf : Room := { frames := 2, cells := 0, slots := 0, locals := 44 }
set_option maxRecDepth 100000 in
set_option maxHeartbeats 8000000 in
theorem c_X12_onOf {l : Launch} {G : GG} {a1 : Int32} {a2 : Int32} {a3 : Int32} {a4 : Int32} {M : Mem} {h : Int64}  {P9 : Int32 → Prop} (hf : OB (f_X12_onOf a1 a2 a3 a4 M) P9) : Met1 l yX12_onOf cX12_onOf 12 (some .int) rm_X12_onOf G [.ref (xa G 132), .int a1, .int a2, .int a3, .int a4] M h (QI0 G M h P9) := by
  unfold f_X12_onOf at hf
  refine xm_i0 (by decide) (Nat.le_of_ble_eq_true rfl) ?_
  intro p e s m args below meth c ls Q C hE hret hP hS hl
  have C : CallFix p m c cX12_onOf 12 s args TB RX12 := C
  have hx := C.1
  have hb := C.2.1
  have hl : lv_has ls 12 [(0, .ref (xa G 132)), (1, .int a1), (2, .int a2), (3, .int a3), (4, .int a4)] := hl
  refine lv_iconst (v := 0) hx hb dX12_onOf_0 (by decide) ?_
  refine lv_istore (lv' := [(5, .int 0), (0, .ref (xa G 132)), (1, .int a1), (2, .int a2), (3, .int a3), (4, .int a4)]) hx hb dX12_onOf_1 hl (by decide) rfl (fun ls hl => ?_)
  refine lv_iconst (v := 0) hx hb dX12_onOf_3 (by decide) ?_
  refine lv_istore (lv' := [(6, .int 0), (5, .int 0), (0, .ref (xa G 132)), (1, .int a1), (2, .int a2), (3, .int a3), (4, .int a4)]) hx hb dX12_onOf_4 hl (by decide) rfl (fun ls hl => ?_)
  refine xj (fun (x625 : Int32) => ∀ (H : Heap) (locs : List Loc) (ls : Array Slot), va_P G.1 vwCl (wl G M h) H → va_S (Aw G) s.heap H locs → lv_has ls 12 [(5, .int x625)] → W p l e rm_X12_onOf s m args below meth c H locs 0 0 Q (F0 m 213 ls [])) hf ?_ (fun hf => ?_)
  · rintro x625 hf H locs ls hP hS hl
    refine lv_iload hx hb dX12_onOf_213 (lv_at hl 0 rfl) ?_
    exact hret _ _ _ _ _ (OB_some hf) hP hS dX12_onOf_215
  · refine (it_W (fun (zz : (Int32 × Int32)) => match zz with | (x623, x624) => ∀ (H : Heap) (locs : List Loc) (ls : Array Slot), va_P G.1 vwCl (wl G M h) H → va_S (Aw G) s.heap H locs → lv_has ls 12 [(0, .ref (xa G 132)), (1, .int a1), (2, .int a2), (3, .int a3), (4, .int a4), (5, .int x623), (6, .int x624)] → W p l e rm_X12_onOf s m args below meth c H locs 0 0 Q (F0 m 6 ls [])) hf ?_) _ _ _ hP hS (lv_sub hl [2, 3, 4, 5, 6, 1, 0] rfl)
    rintro ⟨x623, x624⟩ hf H locs ls hP hS hl
    unfold f_X12_onOf_b6 at hf
    refine lv_iload hx hb dX12_onOf_6 (lv_at hl 6 rfl) ?_
    refine lv_aload_n hx hb dX12_onOf_8 rfl (lv_at hl 0 rfl) ?_
    refine gfX12_98 C hE hP dX12_onOf_9 ?_
    refine lv_icmp_ge (tgt := 213) hx hb dX12_onOf_12 (by decide) (fun hc => ?_) (fun hc => ?_)
    · have hf := (OB_t hf hc)
      exact (it_e hf) _ _ _ hP hS (lv_sub hl [5] rfl)
    · have hf := (OB_f hf hc)
      refine lv_iconst (v := 0) hx hb dX12_onOf_15 (by decide) ?_
      refine lv_istore (lv' := [(7, .int 0), (0, .ref (xa G 132)), (1, .int a1), (2, .int a2), (3, .int a3), (4, .int a4), (5, .int x623), (6, .int x624)]) hx hb dX12_onOf_16 hl (by decide) rfl (fun ls hl => ?_)
      refine xj (fun (zz : (Int32 × Int32)) => match zz with | (x751, x752) => ∀ (H : Heap) (locs : List Loc) (ls : Array Slot), va_P G.1 vwCl (wl G M h) H → va_S (Aw G) s.heap H locs → lv_has ls 12 [(0, .ref (xa G 132)), (1, .int a1), (2, .int a2), (3, .int a3), (4, .int a4), (5, .int x751), (6, .int x752)] → W p l e rm_X12_onOf s m args below meth c H locs 0 0 Q (F0 m 207 ls [])) hf ?_ (fun hf => ?_)
      · rintro ⟨x751, x752⟩ hf H locs ls hP hS hl
        refine lv_iinc (v := (x752 + 1)) (lv' := [(6, .int (x752 + 1)), (0, .ref (xa G 132)), (1, .int a1), (2, .int a2), (3, .int a3), (4, .int a4), (5, .int x751)]) hx hb dX12_onOf_207 hl (k := 6) rfl rfl (by decide) rfl (fun ls hl => ?_)
        refine lv_goto (tgt := 6) hx hb dX12_onOf_210 (by decide) ?_
        exact (it_c hf) _ _ _ hP hS (lv_sub hl [1, 2, 3, 4, 5, 6, 0] rfl)
      · refine (it_W (fun (zz : (Int32 × Int32 × Int32)) => match zz with | (x748, x749, x750) => ∀ (H : Heap) (locs : List Loc) (ls : Array Slot), va_P G.1 vwCl (wl G M h) H → va_S (Aw G) s.heap H locs → lv_has ls 12 [(0, .ref (xa G 132)), (1, .int a1), (2, .int a2), (3, .int a3), (4, .int a4), (5, .int x748), (6, .int x749), (7, .int x750)] → W p l e rm_X12_onOf s m args below meth c H locs 0 0 Q (F0 m 18 ls [])) hf ?_) _ _ _ hP hS (lv_sub hl [1, 2, 3, 4, 5, 6, 7, 0] rfl)
        rintro ⟨x748, x749, x750⟩ hf H locs ls hP hS hl
        unfold f_X12_onOf_b18 at hf
        refine lv_iload hx hb dX12_onOf_18 (lv_at hl 7 rfl) ?_
        refine lv_aload_n hx hb dX12_onOf_20 rfl (lv_at hl 0 rfl) ?_
        refine gfX12_98 C hE hP dX12_onOf_21 ?_
        refine lv_icmp_ge (tgt := 207) hx hb dX12_onOf_24 (by decide) (fun hc => ?_) (fun hc => ?_)
        · have hf := (OB_t hf hc)
          exact (it_e hf) _ _ _ hP hS (lv_sub hl [0, 1, 2, 3, 4, 5, 6] rfl)
        · have hf := (OB_f hf hc)
          refine lv_aload_n hx hb dX12_onOf_27 rfl (lv_at hl 0 rfl) ?_
          refine gfX12_7 C hE hP dX12_onOf_28 ?_
          refine lv_aload_n hx hb dX12_onOf_31 rfl (lv_at hl 0 rfl) ?_
          refine gfX12_16 C hE hP dX12_onOf_32 ?_
          refine lv_iload hx hb dX12_onOf_35 (lv_at hl 6 rfl) ?_
          obtain ⟨g753, hf⟩ := OB_g hf
          refine x_iald C hE hP sh135 g753 dX12_onOf_37 ?_
          obtain ⟨g754, hf⟩ := OB_g hf
          refine x_iald C hE hP sh133 g754 dX12_onOf_38 ?_
          refine lv_iload_n hx hb dX12_onOf_39 rfl (lv_at hl 1 rfl) ?_
          refine xj (fun (x759 : Bool) => ∀ (H : Heap) (locs : List Loc) (ls : Array Slot), va_P G.1 vwCl (wl G M h) H → va_S (Aw G) s.heap H locs → lv_has ls 12 [(0, .ref (xa G 132)), (1, .int a1), (2, .int a2), (3, .int a3), (4, .int a4), (5, .int x748), (6, .int x749), (7, .int x750)] → W p l e rm_X12_onOf s m args below meth c H locs 0 0 Q (F0 m 81 ls [.int (bI x759)])) hf ?_ (fun hf => ?_)
          · rintro x759 hf H locs ls hP hS hl
            refine lv_istore (lv' := [(8, .int (bI x759)), (0, .ref (xa G 132)), (1, .int a1), (2, .int a2), (3, .int a3), (4, .int a4), (5, .int x748), (6, .int x749), (7, .int x750)]) hx hb dX12_onOf_81 hl (by decide) rfl (fun ls hl => ?_)
            refine lv_iload hx hb dX12_onOf_83 (lv_at hl 0 rfl) ?_
            refine xj (fun (x794 : Int32) => ∀ (H : Heap) (locs : List Loc) (ls : Array Slot), va_P G.1 vwCl (wl G M h) H → va_S (Aw G) s.heap H locs → lv_has ls 12 [(0, .ref (xa G 132)), (1, .int a1), (2, .int a2), (3, .int a3), (4, .int a4), (5, .int x794), (6, .int x749), (7, .int x750)] → W p l e rm_X12_onOf s m args below meth c H locs 0 0 Q (F0 m 201 ls [])) hf ?_ (fun hf => ?_)
            · rintro x794 hf H locs ls hP hS hl
              refine lv_iinc (v := (x750 + 1)) (lv' := [(7, .int (x750 + 1)), (0, .ref (xa G 132)), (1, .int a1), (2, .int a2), (3, .int a3), (4, .int a4), (5, .int x794), (6, .int x749)]) hx hb dX12_onOf_201 hl (k := 7) rfl rfl (by decide) rfl (fun ls hl => ?_)
              refine lv_goto (tgt := 18) hx hb dX12_onOf_204 (by decide) ?_
              exact (it_c hf) _ _ _ hP hS (lv_sub hl [1, 2, 3, 4, 5, 6, 7, 0] rfl)
            · skip
              refine lv_if_eq (tgt := 201) hx hb dX12_onOf_85 (by decide) (fun hc => ?_) (fun hc => ?_)
              · have hf := (OB_f hf (bI_f hc))
                exact (OB_some hf) _ _ _ hP hS (lv_sub hl [1, 2, 3, 4, 5, 6, 7, 8] rfl)
              · have hf := (OB_t hf (bI_t hc))
                refine lv_aload_n hx hb dX12_onOf_88 rfl (lv_at hl 1 rfl) ?_
                refine gfX12_16 C hE hP dX12_onOf_89 ?_
                refine lv_iload hx hb dX12_onOf_92 (lv_at hl 8 rfl) ?_
                obtain ⟨g795, hf⟩ := OB_g hf
                refine x_iald C hE hP sh135 g795 dX12_onOf_94 ?_
                refine lv_istore (lv' := [(9, .int (M 135 (Int32.toNatClampNeg x750))), (8, .int (bI x759)), (0, .ref (xa G 132)), (1, .int a1), (2, .int a2), (3, .int a3), (4, .int a4), (5, .int x748), (6, .int x749), (7, .int x750)]) hx hb dX12_onOf_95 hl (by decide) rfl (fun ls hl => ?_)
                refine lv_bipush (v := 16) hx hb dX12_onOf_97 (by decide) ?_
                refine lv_iload hx hb dX12_onOf_99 (lv_at hl 0 rfl) ?_
                refine lv_bipush (v := 16) hx hb dX12_onOf_101 (by decide) ?_
                refine lv_idiv hx hb dX12_onOf_103 (by decide) ?_
                refine lv_iload_n hx hb dX12_onOf_104 rfl (lv_at hl 5 rfl) ?_
                refine lv_iadd hx hb dX12_onOf_105 ?_
                refine lv_imul hx hb dX12_onOf_106 ?_
                refine lv_iload hx hb dX12_onOf_107 (lv_at hl 0 rfl) ?_
                refine lv_bipush (v := 16) hx hb dX12_onOf_109 (by decide) ?_
                refine x_irem C dX12_onOf_111 (by decide) ?_
                refine lv_iload hx hb dX12_onOf_112 (lv_at hl 6 rfl) ?_
                refine lv_iadd hx hb dX12_onOf_114 ?_
                refine lv_bipush (v := 16) hx hb dX12_onOf_115 (by decide) ?_
                refine x_irem C dX12_onOf_117 (by decide) ?_
                refine lv_iadd hx hb dX12_onOf_118 ?_
                refine lv_istore (lv' := [(10, .int ((16 * (((M 135 (Int32.toNatClampNeg x750)) / 16) + a3)) + (jrem ((jrem (M 135 (Int32.toNatClampNeg x750)) 16) + a4) 16))), (9, .int (M 135 (Int32.toNatClampNeg x750))), (8, .int (bI x759)), (0, .ref (xa G 132)), (1, .int a1), (2, .int a2), (3, .int a3), (4, .int a4), (5, .int x748), (6, .int x749), (7, .int x750)]) hx hb dX12_onOf_119 hl (by decide) rfl (fun ls hl => ?_)
                refine lv_iload hx hb dX12_onOf_121 (lv_at hl 0 rfl) ?_
                refine lv_aload_n hx hb dX12_onOf_123 rfl (lv_at hl 3 rfl) ?_
                refine gfX12_16 C hE hP dX12_onOf_124 ?_
                refine lv_iload hx hb dX12_onOf_127 (lv_at hl 9 rfl) ?_
                refine x_iald C hE hP sh135 g753 dX12_onOf_129 ?_
                refine lv_iconst (v := 1) hx hb dX12_onOf_130 (by decide) ?_
                refine x_ci0 (rest := [.int ((16 * (((M 135 (Int32.toNatClampNeg x750)) / 16) + a3)) + (jrem ((jrem (M 135 (Int32.toNatClampNeg x750)) 16) + a4) 16))]) (x_runS C hE hP hS ykX12_east lkX12_145 (c_X12_east (OB_bind hf)) (by decide) rfl hl.1 (Nat.le_of_ble_eq_true rfl) dX12_onOf_131) hS (fun r796 H locs hf hP hS => ?_)
                refine xj (fun (x799 : Bool) => ∀ (H : Heap) (locs : List Loc) (ls : Array Slot), va_P G.1 vwCl (wl G M h) H → va_S (Aw G) s.heap H locs → lv_has ls 12 [(0, .ref (xa G 132)), (1, .int a1), (2, .int a2), (3, .int a3), (4, .int a4), (5, .int x748), (6, .int x749), (7, .int x750)] → W p l e rm_X12_onOf s m args below meth c H locs 0 0 Q (F0 m 158 ls [.int (bI x799)])) hf ?_ (fun hf => ?_)
                · rintro x799 hf H locs ls hP hS hl
                  refine lv_istore (lv' := [(11, .int (bI x799)), (0, .ref (xa G 132)), (1, .int a1), (2, .int a2), (3, .int a3), (4, .int a4), (5, .int x748), (6, .int x749), (7, .int x750)]) hx hb dX12_onOf_158 hl (by decide) rfl (fun ls hl => ?_)
                  refine lv_iload hx hb dX12_onOf_160 (lv_at hl 6 rfl) ?_
                  refine lv_iload hx hb dX12_onOf_162 (lv_at hl 0 rfl) ?_
                  refine xj (fun (x807 : Int32) => ∀ (H : Heap) (locs : List Loc) (ls : Array Slot), va_P G.1 vwCl (wl G M h) H → va_S (Aw G) s.heap H locs → lv_has ls 12 [(0, .ref (xa G 132)), (1, .int a1), (2, .int a2), (3, .int a3), (4, .int a4), (6, .int x749), (7, .int x750)] → W p l e rm_X12_onOf s m args below meth c H locs 0 0 Q (F0 m 198 ls [.int x807, .int x748])) hf ?_ (fun hf => ?_)
                  · rintro x807 hf H locs ls hP hS hl
                    refine lv_iadd hx hb dX12_onOf_198 ?_
                    refine lv_istore (lv' := [(5, .int (x748 + x807)), (0, .ref (xa G 132)), (1, .int a1), (2, .int a2), (3, .int a3), (4, .int a4), (6, .int x749), (7, .int x750)]) hx hb dX12_onOf_199 hl (by decide) rfl (fun ls hl => ?_)
                    exact (OB_some hf) _ _ _ hP hS (lv_sub hl [1, 2, 3, 4, 5, 0, 6, 7] rfl)
                  · skip
                    refine lv_if_ne (tgt := 171) hx hb dX12_onOf_164 (by decide) (fun hc => ?_) (fun hc => ?_)
                    · have hf := (OB_t hf (bI_t hc))
                      refine lv_aload_n hx hb dX12_onOf_171 rfl (lv_at hl 1 rfl) ?_
                      refine lv_iload hx hb dX12_onOf_172 (lv_at hl 7 rfl) ?_
                      refine lv_iload hx hb dX12_onOf_174 (lv_at hl 8 rfl) ?_
                      refine x_cz0 (rest := [.int x748]) (x_runV C hE hP hS ykX12_goes lkX12_141 sh132 rfl (c_X12_goes (OB_bind hf)) (by decide) rfl hl.1 (Nat.le_of_ble_eq_true rfl) dX12_onOf_176) hS (fun r808 H locs hf hP hS => ?_)
                      refine lv_if_eq (tgt := 191) hx hb dX12_onOf_179 (by decide) (fun hc => ?_) (fun hc => ?_)
                      · have hf := (OB_f hf (bI_f hc))
                        refine lv_aload_n hx hb dX12_onOf_191 rfl (lv_at hl 1 rfl) ?_
                        refine lv_iload hx hb dX12_onOf_192 (lv_at hl 7 rfl) ?_
                        refine x_ci0 (rest := [.int x748]) (x_runV C hE hP hS ykX12_weight lkX12_134 sh132 rfl (c_X12_weight (OB_bind hf)) (by decide) rfl hl.1 (Nat.le_of_ble_eq_true rfl) dX12_onOf_194) hS (fun r809 H locs hf hP hS => ?_)
                        refine lv_ineg hx hb dX12_onOf_197 ?_
                        exact (OB_some hf) _ _ _ hP hS (lv_sub hl [1, 2, 3, 4, 5, 7, 8] rfl)
                      · have hf := (OB_t hf (bI_t hc))
                        refine lv_aload_n hx hb dX12_onOf_182 rfl (lv_at hl 1 rfl) ?_
                        refine lv_iload hx hb dX12_onOf_183 (lv_at hl 7 rfl) ?_
                        refine x_ci0 (rest := [.int x748]) (x_runV C hE hP hS ykX12_weight lkX12_134 sh132 rfl (c_X12_weight (OB_bind hf)) (by decide) rfl hl.1 (Nat.le_of_ble_eq_true rfl) dX12_onOf_185) hS (fun r810 H locs hf hP hS => ?_)
                        refine lv_goto (tgt := 198) hx hb dX12_onOf_188 (by decide) ?_
                        exact (OB_some hf) _ _ _ hP hS (lv_sub hl [1, 2, 3, 4, 5, 7, 8] rfl)
                    · have hf := (OB_f hf (bI_f hc))
                      refine lv_iconst (v := 0) hx hb dX12_onOf_167 (by decide) ?_
                      refine lv_goto (tgt := 198) hx hb dX12_onOf_168 (by decide) ?_
                      exact (OB_some hf) _ _ _ hP hS (lv_sub hl [1, 2, 3, 4, 5, 7, 8] rfl)
                · skip
                  refine lv_icmp_eq (tgt := 153) hx hb dX12_onOf_134 (by decide) (fun hc => ?_) (fun hc => ?_)
                  · have hf := (OB_t hf hc)
                    refine lv_iconst (v := 1) hx hb dX12_onOf_153 (by decide) ?_
                    refine lv_goto (tgt := 158) hx hb dX12_onOf_154 (by decide) ?_
                    refine W.eq (g2 := F0 m 158 ls [.int (bI true)]) rfl ?_
                    exact (OB_some hf) _ _ _ hP hS (lv_sub hl [3, 4, 5, 6, 7, 8, 9, 10] rfl)
                  · have hf := (OB_f hf hc)
                    refine lv_iload hx hb dX12_onOf_137 (lv_at hl 0 rfl) ?_
                    refine lv_aload_n hx hb dX12_onOf_139 rfl (lv_at hl 3 rfl) ?_
                    refine gfX12_16 C hE hP dX12_onOf_140 ?_
                    refine lv_iload hx hb dX12_onOf_143 (lv_at hl 9 rfl) ?_
                    refine x_iald C hE hP sh135 g753 dX12_onOf_145 ?_
                    refine lv_iconst (v := -1) hx hb dX12_onOf_146 (by decide) ?_
                    refine x_ci0 (rest := [.int ((16 * (((M 135 (Int32.toNatClampNeg x750)) / 16) + a3)) + (jrem ((jrem (M 135 (Int32.toNatClampNeg x750)) 16) + a4) 16))]) (x_runS C hE hP hS ykX12_east lkX12_145 (c_X12_east (OB_bind hf)) (by decide) rfl hl.1 (Nat.le_of_ble_eq_true rfl) dX12_onOf_147) hS (fun r800 H locs hf hP hS => ?_)
                    refine lv_icmp_ne (tgt := 157) hx hb dX12_onOf_150 (by decide) (fun hc => ?_) (fun hc => ?_)
                    · have hf := (OB_f hf hc)
                      refine lv_iconst (v := 0) hx hb dX12_onOf_157 (by decide) ?_
                      refine W.eq (g2 := F0 m 158 ls [.int (bI false)]) rfl ?_
                      exact (OB_some hf) _ _ _ hP hS (lv_sub hl [3, 4, 5, 6, 7, 8, 9, 10] rfl)
                    · have hf := (OB_t hf hc)
                      refine lv_iconst (v := 1) hx hb dX12_onOf_153 (by decide) ?_
                      refine lv_goto (tgt := 158) hx hb dX12_onOf_154 (by decide) ?_
                      refine W.eq (g2 := F0 m 158 ls [.int (bI true)]) rfl ?_
                      exact (OB_some hf) _ _ _ hP hS (lv_sub hl [3, 4, 5, 6, 7, 8, 9, 10] rfl)
          · skip
            refine lv_icmp_ne (tgt := 80) hx hb dX12_onOf_40 (by decide) (fun hc => ?_) (fun hc => ?_)
            · have hf := (OB_f hf hc)
              refine lv_iconst (v := 0) hx hb dX12_onOf_80 (by decide) ?_
              refine W.eq (g2 := F0 m 81 ls [.int (bI false)]) rfl ?_
              exact (OB_some hf) _ _ _ hP hS (lv_sub hl [0, 1, 2, 3, 4, 5, 6, 7] rfl)
            · have hf := (OB_t hf hc)
              refine lv_aload_n hx hb dX12_onOf_43 rfl (lv_at hl 0 rfl) ?_
              refine gfX12_7 C hE hP dX12_onOf_44 ?_
              refine lv_aload_n hx hb dX12_onOf_47 rfl (lv_at hl 0 rfl) ?_
              refine gfX12_16 C hE hP dX12_onOf_48 ?_
              refine lv_iload hx hb dX12_onOf_51 (lv_at hl 7 rfl) ?_
              obtain ⟨g760, hf⟩ := OB_g hf
              refine x_iald C hE hP sh135 g760 dX12_onOf_53 ?_
              obtain ⟨g761, hf⟩ := OB_g hf
              refine x_iald C hE hP sh133 g761 dX12_onOf_54 ?_
              refine lv_iload_n hx hb dX12_onOf_55 rfl (lv_at hl 2 rfl) ?_
              refine lv_icmp_ne (tgt := 80) hx hb dX12_onOf_56 (by decide) (fun hc => ?_) (fun hc => ?_)
              · have hf := (OB_f hf hc)
                refine lv_iconst (v := 0) hx hb dX12_onOf_80 (by decide) ?_
                refine W.eq (g2 := F0 m 81 ls [.int (bI false)]) rfl ?_
                exact (OB_some hf) _ _ _ hP hS (lv_sub hl [0, 1, 2, 3, 4, 5, 6, 7] rfl)
              · have hf := (OB_t hf hc)
                refine lv_aload_n hx hb dX12_onOf_59 rfl (lv_at hl 0 rfl) ?_
                refine gfX12_13 C hE hP dX12_onOf_60 ?_
                refine lv_iload hx hb dX12_onOf_63 (lv_at hl 6 rfl) ?_
                refine x_iald C hE hP sh134 g753 dX12_onOf_65 ?_
                refine lv_aload_n hx hb dX12_onOf_66 rfl (lv_at hl 0 rfl) ?_
                refine gfX12_13 C hE hP dX12_onOf_67 ?_
                refine lv_iload hx hb dX12_onOf_70 (lv_at hl 7 rfl) ?_
                refine x_iald C hE hP sh134 g760 dX12_onOf_72 ?_
                refine lv_icmp_ne (tgt := 80) hx hb dX12_onOf_73 (by decide) (fun hc => ?_) (fun hc => ?_)
                · have hf := (OB_f hf hc)
                  refine lv_iconst (v := 0) hx hb dX12_onOf_80 (by decide) ?_
                  refine W.eq (g2 := F0 m 81 ls [.int (bI false)]) rfl ?_
                  exact (OB_some hf) _ _ _ hP hS (lv_sub hl [0, 1, 2, 3, 4, 5, 6, 7] rfl)
                · have hf := (OB_t hf hc)
                  refine lv_iconst (v := 1) hx hb dX12_onOf_76 (by decide) ?_
                  refine lv_goto (tgt := 81) hx hb dX12_onOf_77 (by decide) ?_
                  refine W.eq (g2 := F0 m 81 ls [.int (bI true)]) rfl ?_
                  exact (OB_some hf) _ _ _ hP hS (lv_sub hl [0, 1, 2, 3, 4, 5, 6, 7] rfl)
def rm_X12_isPair : Room := { frames := 2, cells := 0, slots := 0, locals := 45 }
set_option maxRecDepth 100000 in
set_option maxHeartbeats 8000000 in
theorem c_X12_isPair {l : Launch} {G : GG} {a0 : Int32} {a1 : Int32} {M : Mem} {h : Int64}  {P9 : Bool → Prop} (hf : OB (f_X12_isPair a0 a1) P9) : Met1 l yX12_isPair cX12_isPair 2 (some .boolean) rm_X12_isPair G [.int a0, .int a1] M h (QZ0 G M h P9) := by
  unfold f_X12_isPair at hf
  refine xm_z0 (by decide) (Nat.le_of_ble_eq_true rfl) ?_
  intro p e s m args below meth c ls Q C hE hret hP hS hl
  have C : CallFix p m c cX12_isPair 2 s args TB RX12 := C
  have hx := C.1
  have hb := C.2.1
  have hl : lv_has ls 2 [(0, .int a0), (1, .int a1)] := hl
  refine lv_iload_n hx hb dX12_isPair_0 rfl (lv_at hl 0 rfl) ?_
  refine x_cz0 (rest := []) (x_runS C hE hP hS ykX12_isLand lkX12_101 (c_X12_isLand (OB_bind hf)) (by decide) rfl hl.1 (Nat.le_of_ble_eq_true rfl) dX12_isPair_1) hS (fun r1 H locs hf hP hS => ?_)
  refine xj (fun (x4 : Bool) => ∀ (H : Heap) (locs : List Loc) (ls : Array Slot), va_P G.1 vwCl (wl G M h) H → va_S (Aw G) s.heap H locs → lv_has ls 2 [] → W p l e rm_X12_isPair s m args below meth c H locs 0 0 Q (F0 m 24 ls [.int (bI x4)])) hf ?_ (fun hf => ?_)
  · rintro x4 hf H locs ls hP hS hl
    exact hret _ _ _ _ _ (OB_some hf) hP hS dX12_isPair_24
  · skip
    refine lv_if_eq (tgt := 23) hx hb dX12_isPair_4 (by decide) (fun hc => ?_) (fun hc => ?_)
    · have hf := (OB_f hf (bI_f hc))
      refine lv_iconst (v := 0) hx hb dX12_isPair_23 (by decide) ?_
      refine W.eq (g2 := F0 m 24 ls [.int (bI false)]) rfl ?_
      exact (OB_some hf) _ _ _ hP hS (lv_sub hl [] rfl)
    · have hf := (OB_t hf (bI_t hc))
      refine lv_iload_n hx hb dX12_isPair_7 rfl (lv_at hl 1 rfl) ?_
      refine x_cz0 (rest := []) (x_runS C hE hP hS ykX12_isLand lkX12_101 (c_X12_isLand (OB_bind hf)) (by decide) rfl hl.1 (Nat.le_of_ble_eq_true rfl) dX12_isPair_8) hS (fun r5 H locs hf hP hS => ?_)
      refine lv_if_eq (tgt := 23) hx hb dX12_isPair_11 (by decide) (fun hc => ?_) (fun hc => ?_)
      · have hf := (OB_f hf (bI_f hc))
        refine lv_iconst (v := 0) hx hb dX12_isPair_23 (by decide) ?_
        refine W.eq (g2 := F0 m 24 ls [.int (bI false)]) rfl ?_
        exact (OB_some hf) _ _ _ hP hS (lv_sub hl [] rfl)
      · have hf := (OB_t hf (bI_t hc))
        refine lv_iload_n hx hb dX12_isPair_14 rfl (lv_at hl 0 rfl) ?_
        refine lv_iload_n hx hb dX12_isPair_15 rfl (lv_at hl 1 rfl) ?_
        refine lv_icmp_eq (tgt := 23) hx hb dX12_isPair_16 (by decide) (fun hc => ?_) (fun hc => ?_)
        · have hf := (OB_t hf hc)
          refine lv_iconst (v := 0) hx hb dX12_isPair_23 (by decide) ?_
          refine W.eq (g2 := F0 m 24 ls [.int (bI false)]) rfl ?_
          exact (OB_some hf) _ _ _ hP hS (lv_sub hl [] rfl)
        · have hf := (OB_f hf hc)
          refine lv_iconst (v := 1) hx hb dX12_isPair_19 (by decide) ?_
          refine lv_goto (tgt := 24) hx hb dX12_isPair_20 (by decide) ?_
          refine W.eq (g2 := F0 m 24 ls [.int (bI true)]) rfl ?_
          exact (OB_some hf) _ _ _ hP hS (lv_sub hl [] rfl)
def rm_X12_isPlace : Room := { frames := 1, cells := 0, slots := 0, locals := 25 }
set_option maxRecDepth 100000 in
set_option maxHeartbeats 8000000 in
theorem c_X12_isPlace {l : Launch} {G : GG} {a0 : Int32} {a1 : Int32} {M : Mem} {h : Int64}  {P9 : Bool → Prop} (hf : OB (f_X12_isPlace a0 a1) P9) : Met1 l yX12_isPlace cX12_isPlace 2 (some .boolean) rm_X12_isPlace G [.int a0, .int a1] M h (QZ0 G M h P9) := by
  unfold f_X12_isPlace at hf
  refine xm_z0 (by decide) (Nat.le_of_ble_eq_true rfl) ?_
  intro p e s m args below meth c ls Q C hE hret hP hS hl
  have C : CallFix p m c cX12_isPlace 2 s args TB RX12 := C
  have hx := C.1
  have hb := C.2.1
  have hl : lv_has ls 2 [(0, .int a0), (1, .int a1)] := hl
  refine lv_iload_n hx hb dX12_isPlace_0 rfl (lv_at hl 0 rfl) ?_
  refine lv_i2l hx hb dX12_isPlace_1 rfl ?_
  refine lv_ldc2 hx hb C.2.2.2.1 (C.2.2.2.2 _ ckX12_165) dX12_isPlace_2 ?_
  refine lv_ldc2 hx hb C.2.2.2.1 (C.2.2.2.2 _ ckX12_112) dX12_isPlace_5 ?_
  refine x_cz0 (rest := []) (x_runS C hE hP hS ykX12_in lkX12_92 (c_X12_in (OB_bind hf)) (by decide) rfl hl.1 (Nat.le_of_ble_eq_true rfl) dX12_isPlace_8) hS (fun r1 H locs hf hP hS => ?_)
  refine xj (fun (x4 : Bool) => ∀ (H : Heap) (locs : List Loc) (ls : Array Slot), va_P G.1 vwCl (wl G M h) H → va_S (Aw G) s.heap H locs → lv_has ls 2 [] → W p l e rm_X12_isPlace s m args below meth c H locs 0 0 Q (F0 m 31 ls [.int (bI x4)])) hf ?_ (fun hf => ?_)
  · rintro x4 hf H locs ls hP hS hl
    exact hret _ _ _ _ _ (OB_some hf) hP hS dX12_isPlace_31
  · skip
    refine lv_if_eq (tgt := 30) hx hb dX12_isPlace_11 (by decide) (fun hc => ?_) (fun hc => ?_)
    · have hf := (OB_f hf (bI_f hc))
      refine lv_iconst (v := 0) hx hb dX12_isPlace_30 (by decide) ?_
      refine W.eq (g2 := F0 m 31 ls [.int (bI false)]) rfl ?_
      exact (OB_some hf) _ _ _ hP hS (lv_sub hl [] rfl)
    · have hf := (OB_t hf (bI_t hc))
      refine lv_iload_n hx hb dX12_isPlace_14 rfl (lv_at hl 1 rfl) ?_
      refine lv_i2l hx hb dX12_isPlace_15 rfl ?_
      refine lv_lconst (v := 0) hx hb dX12_isPlace_16 (by decide) ?_
      refine lv_ldc2 hx hb C.2.2.2.1 (C.2.2.2.2 _ ckX12_114) dX12_isPlace_17 ?_
      refine x_cz0 (rest := []) (x_runS C hE hP hS ykX12_in lkX12_92 (c_X12_in (OB_bind hf)) (by decide) rfl hl.1 (Nat.le_of_ble_eq_true rfl) dX12_isPlace_20) hS (fun r5 H locs hf hP hS => ?_)
      refine lv_if_eq (tgt := 30) hx hb dX12_isPlace_23 (by decide) (fun hc => ?_) (fun hc => ?_)
      · have hf := (OB_f hf (bI_f hc))
        refine lv_iconst (v := 0) hx hb dX12_isPlace_30 (by decide) ?_
        refine W.eq (g2 := F0 m 31 ls [.int (bI false)]) rfl ?_
        exact (OB_some hf) _ _ _ hP hS (lv_sub hl [] rfl)
      · have hf := (OB_t hf (bI_t hc))
        refine lv_iconst (v := 1) hx hb dX12_isPlace_26 (by decide) ?_
        refine lv_goto (tgt := 31) hx hb dX12_isPlace_27 (by decide) ?_
        refine W.eq (g2 := F0 m 31 ls [.int (bI true)]) rfl ?_
        exact (OB_some hf) _ _ _ hP hS (lv_sub hl [] rfl)
def rm_X12_put : Room := { frames := 4, cells := 0, slots := 0, locals := 87 }
set_option maxRecDepth 100000 in
set_option maxHeartbeats 8000000 in
theorem c_X12_put {l : Launch} {G : GG} {a1 : Int32} {a2 : Int32} {a3 : Int32} {a4 : Int32} {a5 : Int32} {M : Mem} {h : Int64}  {P9 : (Int32 × Mem) → Prop} (hf : OB (f_X12_put a1 a2 a3 a4 a5 M) P9) : Met1 l yX12_put cX12_put 6 (some .int) rm_X12_put G [.ref (xa G 132), .int a1, .int a2, .int a3, .int a4, .int a5] M h (QI1 G h P9) := by
  unfold f_X12_put at hf
  refine xm_i1 (by decide) (Nat.le_of_ble_eq_true rfl) ?_
  intro p e s m args below meth c ls Q C hE hret hP hS hl
  have C : CallFix p m c cX12_put 6 s args TB RX12 := C
  have hx := C.1
  have hb := C.2.1
  have hl : lv_has ls 6 [(0, .ref (xa G 132)), (1, .int a1), (2, .int a2), (3, .int a3), (4, .int a4), (5, .int a5)] := hl
  refine lv_iload_n hx hb dX12_put_0 rfl (lv_at hl 1 rfl) ?_
  refine lv_iload_n hx hb dX12_put_1 rfl (lv_at hl 2 rfl) ?_
  refine x_cz0 (rest := []) (x_runS C hE hP hS ykX12_isPair lkX12_167 (c_X12_isPair (OB_bind hf)) (by decide) rfl hl.1 (Nat.le_of_ble_eq_true rfl) dX12_put_2) hS (fun r1 H locs hf hP hS => ?_)
  refine lv_if_ne (tgt := 11) hx hb dX12_put_5 (by decide) (fun hc => ?_) (fun hc => ?_)
  · have hf := (OB_t hf (bI_t hc))
    refine lv_iload_n hx hb dX12_put_11 rfl (lv_at hl 3 rfl) ?_
    refine lv_iload hx hb dX12_put_12 (lv_at hl 4 rfl) ?_
    refine x_cz0 (rest := []) (x_runS C hE hP hS ykX12_isPlace lkX12_171 (c_X12_isPlace (OB_bind hf)) (by decide) rfl hl.1 (Nat.le_of_ble_eq_true rfl) dX12_put_14) hS (fun r2 H locs hf hP hS => ?_)
    refine lv_if_eq (tgt := 33) hx hb dX12_put_17 (by decide) (fun hc => ?_) (fun hc => ?_)
    · have hf := (OB_f hf (bI_f hc))
      refine lv_ldc hx hb C.2.2.2.1 (C.2.2.2.2 _ ckX12_174) dX12_put_33 ?_
      exact hret _ _ _ _ _ _ (OB_some hf) hP hS dX12_put_35
    · have hf := (OB_t hf (bI_t hc))
      refine lv_iload hx hb dX12_put_20 (lv_at hl 5 rfl) ?_
      refine lv_i2l hx hb dX12_put_22 rfl ?_
      refine lv_lconst (v := 0) hx hb dX12_put_23 (by decide) ?_
      refine lv_ldc2 hx hb C.2.2.2.1 (C.2.2.2.2 _ ckX12_90) dX12_put_24 ?_
      refine x_cz0 (rest := []) (x_runS C hE hP hS ykX12_in lkX12_92 (c_X12_in (OB_bind hf)) (by decide) rfl hl.1 (Nat.le_of_ble_eq_true rfl) dX12_put_27) hS (fun r3 H locs hf hP hS => ?_)
      refine lv_if_ne (tgt := 36) hx hb dX12_put_30 (by decide) (fun hc => ?_) (fun hc => ?_)
      · have hf := (OB_t hf (bI_t hc))
        refine lv_iload hx hb dX12_put_36 (lv_at hl 5 rfl) ?_
        refine lv_iconst (v := 4) hx hb dX12_put_38 (by decide) ?_
        refine lv_icmp_ne (tgt := 60) hx hb dX12_put_39 (by decide) (fun hc => ?_) (fun hc => ?_)
        · have hf := (OB_f hf hc)
          refine lv_aload_n hx hb dX12_put_60 rfl (lv_at hl 0 rfl) ?_
          refine lv_iload_n hx hb dX12_put_61 rfl (lv_at hl 1 rfl) ?_
          refine lv_iload_n hx hb dX12_put_62 rfl (lv_at hl 2 rfl) ?_
          refine lv_iload_n hx hb dX12_put_63 rfl (lv_at hl 3 rfl) ?_
          refine lv_iload hx hb dX12_put_64 (lv_at hl 4 rfl) ?_
          refine x_cz1 (rest := []) (x_runV C hE hP hS ykX12_lay lkX12_161 sh132 rfl (c_X12_lay (OB_bind hf)) (by decide) rfl hl.1 (Nat.le_of_ble_eq_true rfl) dX12_put_66) hS (fun r4 M5 H locs hf hP hS => ?_)
          refine lv_if_ne (tgt := 75) hx hb dX12_put_69 (by decide) (fun hc => ?_) (fun hc => ?_)
          · have hf := (OB_t hf (bI_t hc))
            refine lv_iload hx hb dX12_put_75 (lv_at hl 5 rfl) ?_
            refine xj (fun (x16 : Int32) => ∀ (H : Heap) (locs : List Loc) (ls : Array Slot), va_P G.1 vwCl (wl G M5 h) H → va_S (Aw G) s.heap H locs → lv_has ls 6 [] → W p l e rm_X12_put s m args below meth c H locs 0 0 Q (F0 m 135 ls [.int x16])) hf ?_ (fun hf => ?_)
            · rintro x16 hf H locs ls hP hS hl
              exact hret _ _ _ _ _ _ (OB_some hf) hP hS dX12_put_135
            · skip
              refine lv_if_ne (tgt := 87) hx hb dX12_put_77 (by decide) (fun hc => ?_) (fun hc => ?_)
              · have hf := (OB_f hf hc)
                refine lv_iload hx hb dX12_put_87 (lv_at hl 5 rfl) ?_
                refine lv_iconst (v := 1) hx hb dX12_put_89 (by decide) ?_
                refine lv_icmp_ne (tgt := 100) hx hb dX12_put_90 (by decide) (fun hc => ?_) (fun hc => ?_)
                · have hf := (OB_f hf hc)
                  refine lv_iload hx hb dX12_put_100 (lv_at hl 5 rfl) ?_
                  refine lv_iconst (v := 2) hx hb dX12_put_102 (by decide) ?_
                  refine lv_icmp_ne (tgt := 113) hx hb dX12_put_103 (by decide) (fun hc => ?_) (fun hc => ?_)
                  · have hf := (OB_f hf hc)
                    refine lv_iload hx hb dX12_put_113 (lv_at hl 5 rfl) ?_
                    refine lv_iconst (v := 3) hx hb dX12_put_115 (by decide) ?_
                    refine lv_icmp_ne (tgt := 126) hx hb dX12_put_116 (by decide) (fun hc => ?_) (fun hc => ?_)
                    · have hf := (OB_f hf hc)
                      refine lv_aload_n hx hb dX12_put_126 rfl (lv_at hl 0 rfl) ?_
                      refine lv_iload_n hx hb dX12_put_127 rfl (lv_at hl 1 rfl) ?_
                      refine lv_iload_n hx hb dX12_put_128 rfl (lv_at hl 2 rfl) ?_
                      refine lv_iload_n hx hb dX12_put_129 rfl (lv_at hl 3 rfl) ?_
                      refine lv_iload hx hb dX12_put_130 (lv_at hl 4 rfl) ?_
                      refine x_ci0 (rest := []) (x_runV C hE hP hS ykX12_onOf lkX12_182 sh132 rfl (c_X12_onOf (OB_bind hf)) (by decide) rfl hl.1 (Nat.le_of_ble_eq_true rfl) dX12_put_132) hS (fun r17 H locs hf hP hS => ?_)
                      exact (OB_some hf) _ _ _ hP hS (lv_sub hl [] rfl)
                    · have hf := (OB_t hf hc)
                      refine lv_aload_n hx hb dX12_put_119 rfl (lv_at hl 0 rfl) ?_
                      refine x_ci0 (rest := []) (x_runV C hE hP hS ykX12_cost lkX12_179 sh132 rfl (c_X12_cost (OB_bind hf)) (by decide) rfl hl.1 (Nat.le_of_ble_eq_true rfl) dX12_put_120) hS (fun r18 H locs hf hP hS => ?_)
                      refine lv_goto (tgt := 135) hx hb dX12_put_123 (by decide) ?_
                      exact (OB_some hf) _ _ _ hP hS (lv_sub hl [] rfl)
                  · have hf := (OB_t hf hc)
                    refine lv_aload_n hx hb dX12_put_106 rfl (lv_at hl 0 rfl) ?_
                    refine x_ci0 (rest := []) (x_runV C hE hP hS ykX12_gap lkX12_155 sh132 rfl (c_X12_gap (OB_bind hf)) (by decide) rfl hl.1 (Nat.le_of_ble_eq_true rfl) dX12_put_107) hS (fun r19 H locs hf hP hS => ?_)
                    refine lv_goto (tgt := 135) hx hb dX12_put_110 (by decide) ?_
                    exact (OB_some hf) _ _ _ hP hS (lv_sub hl [] rfl)
                · have hf := (OB_t hf hc)
                  refine lv_aload_n hx hb dX12_put_93 rfl (lv_at hl 0 rfl) ?_
                  refine x_ci0 (rest := []) (x_runV C hE hP hS ykX12_touch lkX12_158 sh132 rfl (c_X12_touch (OB_bind hf)) (by decide) rfl hl.1 (Nat.le_of_ble_eq_true rfl) dX12_put_94) hS (fun r20 H locs hf hP hS => ?_)
                  refine lv_goto (tgt := 135) hx hb dX12_put_97 (by decide) ?_
                  exact (OB_some hf) _ _ _ hP hS (lv_sub hl [] rfl)
              · have hf := (OB_t hf hc)
                refine lv_aload_n hx hb dX12_put_80 rfl (lv_at hl 0 rfl) ?_
                refine x_ci0 (rest := []) (x_runV C hE hP hS ykX12_overlap lkX12_151 sh132 rfl (c_X12_overlap (OB_bind hf)) (by decide) rfl hl.1 (Nat.le_of_ble_eq_true rfl) dX12_put_81) hS (fun r21 H locs hf hP hS => ?_)
                refine lv_goto (tgt := 135) hx hb dX12_put_84 (by decide) ?_
                exact (OB_some hf) _ _ _ hP hS (lv_sub hl [] rfl)
          · have hf := (OB_f hf (bI_f hc))
            refine lv_ldc hx hb C.2.2.2.1 (C.2.2.2.2 _ ckX12_178) dX12_put_72 ?_
            exact hret _ _ _ _ _ _ (OB_some hf) hP hS dX12_put_74
        · have hf := (OB_t hf hc)
          refine lv_aload_n hx hb dX12_put_42 rfl (lv_at hl 0 rfl) ?_
          refine lv_iload_n hx hb dX12_put_43 rfl (lv_at hl 1 rfl) ?_
          refine lv_iload_n hx hb dX12_put_44 rfl (lv_at hl 2 rfl) ?_
          refine lv_iload_n hx hb dX12_put_45 rfl (lv_at hl 3 rfl) ?_
          refine lv_iload hx hb dX12_put_46 (lv_at hl 4 rfl) ?_
          refine x_cz1 (rest := []) (x_runV C hE hP hS ykX12_isCounted lkX12_175 sh132 rfl (c_X12_isCounted (OB_bind hf)) (by decide) rfl hl.1 (Nat.le_of_ble_eq_true rfl) dX12_put_48) hS (fun r22 M23 H locs hf hP hS => ?_)
          refine xj (fun (x24 : Bool) => ∀ (H : Heap) (locs : List Loc) (ls : Array Slot), va_P G.1 vwCl (wl G M23 h) H → va_S (Aw G) s.heap H locs → lv_has ls 6 [] → W p l e rm_X12_put s m args below meth c H locs 0 0 Q (F0 m 59 ls [.int (bI x24)])) hf ?_ (fun hf => ?_)
          · rintro x24 hf H locs ls hP hS hl
            exact hret _ _ _ _ _ _ (OB_some hf) hP hS dX12_put_59
          · skip
            refine lv_if_eq (tgt := 58) hx hb dX12_put_51 (by decide) (fun hc => ?_) (fun hc => ?_)
            · have hf := (OB_f hf (bI_f hc))
              refine lv_iconst (v := 0) hx hb dX12_put_58 (by decide) ?_
              refine W.eq (g2 := F0 m 59 ls [.int (bI false)]) rfl ?_
              exact (OB_some hf) _ _ _ hP hS (lv_sub hl [] rfl)
            · have hf := (OB_t hf (bI_t hc))
              refine lv_iconst (v := 1) hx hb dX12_put_54 (by decide) ?_
              refine lv_goto (tgt := 59) hx hb dX12_put_55 (by decide) ?_
              refine W.eq (g2 := F0 m 59 ls [.int (bI true)]) rfl ?_
              exact (OB_some hf) _ _ _ hP hS (lv_sub hl [] rfl)
      · have hf := (OB_f hf (bI_f hc))
        refine lv_ldc hx hb C.2.2.2.1 (C.2.2.2.2 _ ckX12_174) dX12_put_33 ?_
        exact hret _ _ _ _ _ _ (OB_some hf) hP hS dX12_put_35
  · have hf := (OB_f hf (bI_f hc))
    refine lv_ldc hx hb C.2.2.2.1 (C.2.2.2.2 _ ckX12_170) dX12_put_8 ?_
    exact hret _ _ _ _ _ _ (OB_some hf) hP hS dX12_put_10
def rm_X12_fit : Room := { frames := 4, cells := 0, slots := 0, locals := 87 }
set_option maxRecDepth 100000 in
set_option maxHeartbeats 8000000 in
theorem c_X12_fit {l : Launch} {G : GG} {a1 : Int32} {a2 : Int32} {a3 : Int32} {M : Mem} {h : Int64}  {P9 : (Int32 × Mem) → Prop} (hf : OB (f_X12_fit a1 a2 a3 M) P9) : Met1 l yX12_fit cX12_fit 11 (some .int) rm_X12_fit G [.ref (xa G 132), .int a1, .int a2, .int a3] M h (QI1 G h P9) := by
  unfold f_X12_fit at hf
  refine xm_i1 (by decide) (Nat.le_of_ble_eq_true rfl) ?_
  intro p e s m args below meth c ls Q C hE hret hP hS hl
  have C : CallFix p m c cX12_fit 11 s args TB RX12 := C
  have hx := C.1
  have hb := C.2.1
  have hl : lv_has ls 11 [(0, .ref (xa G 132)), (1, .int a1), (2, .int a2), (3, .int a3)] := hl
  refine lv_iload_n hx hb dX12_fit_0 rfl (lv_at hl 1 rfl) ?_
  refine lv_iload_n hx hb dX12_fit_1 rfl (lv_at hl 2 rfl) ?_
  refine x_cz0 (rest := []) (x_runS C hE hP hS ykX12_isPair lkX12_167 (c_X12_isPair (OB_bind hf)) (by decide) rfl hl.1 (Nat.le_of_ble_eq_true rfl) dX12_fit_2) hS (fun r1 H locs hf hP hS => ?_)
  refine lv_if_ne (tgt := 11) hx hb dX12_fit_5 (by decide) (fun hc => ?_) (fun hc => ?_)
  · have hf := (OB_t hf (bI_t hc))
    refine lv_iload_n hx hb dX12_fit_11 rfl (lv_at hl 3 rfl) ?_
    refine lv_i2l hx hb dX12_fit_12 rfl ?_
    refine lv_lconst (v := 0) hx hb dX12_fit_13 (by decide) ?_
    refine lv_ldc2 hx hb C.2.2.2.1 (C.2.2.2.2 _ ckX12_118) dX12_fit_14 ?_
    refine x_cz0 (rest := []) (x_runS C hE hP hS ykX12_in lkX12_92 (c_X12_in (OB_bind hf)) (by decide) rfl hl.1 (Nat.le_of_ble_eq_true rfl) dX12_fit_17) hS (fun r2 H locs hf hP hS => ?_)
    refine lv_if_ne (tgt := 26) hx hb dX12_fit_20 (by decide) (fun hc => ?_) (fun hc => ?_)
    · have hf := (OB_t hf (bI_t hc))
      refine lv_iconst (v := 0) hx hb dX12_fit_26 (by decide) ?_
      refine lv_istore (lv' := [(4, .int 0), (0, .ref (xa G 132)), (1, .int a1), (2, .int a2), (3, .int a3)]) hx hb dX12_fit_27 hl (by decide) rfl (fun ls hl => ?_)
      refine lv_iconst (v := -1) hx hb dX12_fit_29 (by decide) ?_
      refine lv_istore (lv' := [(5, .int (-1)), (4, .int 0), (0, .ref (xa G 132)), (1, .int a1), (2, .int a2), (3, .int a3)]) hx hb dX12_fit_30 hl (by decide) rfl (fun ls hl => ?_)
      refine lv_iconst (v := -1) hx hb dX12_fit_32 (by decide) ?_
      refine lv_istore (lv' := [(6, .int (-1)), (5, .int (-1)), (4, .int 0), (0, .ref (xa G 132)), (1, .int a1), (2, .int a2), (3, .int a3)]) hx hb dX12_fit_33 hl (by decide) rfl (fun ls hl => ?_)
      refine lv_iconst (v := 0) hx hb dX12_fit_35 (by decide) ?_
      refine lv_istore (lv' := [(7, .int 0), (6, .int (-1)), (5, .int (-1)), (4, .int 0), (0, .ref (xa G 132)), (1, .int a1), (2, .int a2), (3, .int a3)]) hx hb dX12_fit_36 hl (by decide) rfl (fun ls hl => ?_)
      refine lv_bipush (v := -7) hx hb dX12_fit_38 (by decide) ?_
      refine lv_istore (lv' := [(8, .int (-7)), (7, .int 0), (6, .int (-1)), (5, .int (-1)), (4, .int 0), (0, .ref (xa G 132)), (1, .int a1), (2, .int a2), (3, .int a3)]) hx hb dX12_fit_40 hl (by decide) rfl (fun ls hl => ?_)
      refine xj (fun (zz : (Int32 × Int32 × Int32 × Mem)) => match zz with | (x295, x296, x297, M298) => ∀ (H : Heap) (locs : List Loc) (ls : Array Slot), va_P G.1 vwCl (wl G M298 h) H → va_S (Aw G) s.heap H locs → lv_has ls 11 [(3, .int a3), (4, .int x295), (5, .int x296), (6, .int x297)] → W p l e rm_X12_fit s m args below meth c H locs 0 0 Q (F0 m 120 ls [])) hf ?_ (fun hf => ?_)
      · rintro ⟨x295, x296, x297, M298⟩ hf H locs ls hP hS hl
        refine lv_iload_n hx hb dX12_fit_120 rfl (lv_at hl 0 rfl) ?_
        refine xj (fun (x380 : Int32) => ∀ (H : Heap) (locs : List Loc) (ls : Array Slot), va_P G.1 vwCl (wl G M298 h) H → va_S (Aw G) s.heap H locs → lv_has ls 11 [] → W p l e rm_X12_fit s m args below meth c H locs 0 0 Q (F0 m 141 ls [.int x380])) hf ?_ (fun hf => ?_)
        · rintro x380 hf H locs ls hP hS hl
          exact hret _ _ _ _ _ _ (OB_some hf) hP hS dX12_fit_141
        · skip
          refine lv_if_ne (tgt := 129) hx hb dX12_fit_121 (by decide) (fun hc => ?_) (fun hc => ?_)
          · have hf := (OB_f hf hc)
            refine lv_iload_n hx hb dX12_fit_129 rfl (lv_at hl 0 rfl) ?_
            refine lv_iconst (v := 1) hx hb dX12_fit_130 (by decide) ?_
            refine lv_icmp_ne (tgt := 139) hx hb dX12_fit_131 (by decide) (fun hc => ?_) (fun hc => ?_)
            · have hf := (OB_f hf hc)
              refine lv_iload hx hb dX12_fit_139 (lv_at hl 1 rfl) ?_
              exact (OB_some hf) _ _ _ hP hS (lv_sub hl [] rfl)
            · have hf := (OB_t hf hc)
              refine lv_iload hx hb dX12_fit_134 (lv_at hl 3 rfl) ?_
              refine lv_goto (tgt := 141) hx hb dX12_fit_136 (by decide) ?_
              exact (OB_some hf) _ _ _ hP hS (lv_sub hl [] rfl)
          · have hf := (OB_t hf hc)
            refine lv_iload hx hb dX12_fit_124 (lv_at hl 2 rfl) ?_
            refine lv_goto (tgt := 141) hx hb dX12_fit_126 (by decide) ?_
            exact (OB_some hf) _ _ _ hP hS (lv_sub hl [] rfl)
      · refine (it_W (fun (zz : (Int32 × Int32 × Int32 × Int32 × Int32 × Mem)) => match zz with | (x289, x290, x291, x292, x293, M294) => ∀ (H : Heap) (locs : List Loc) (ls : Array Slot), va_P G.1 vwCl (wl G M294 h) H → va_S (Aw G) s.heap H locs → lv_has ls 11 [(0, .ref (xa G 132)), (1, .int a1), (2, .int a2), (3, .int a3), (4, .int x289), (5, .int x290), (6, .int x291), (7, .int x292), (8, .int x293)] → W p l e rm_X12_fit s m args below meth c H locs 0 0 Q (F0 m 42 ls [])) hf ?_) _ _ _ hP hS (lv_sub hl [5, 6, 7, 8, 4, 3, 2, 1, 0] rfl)
        rintro ⟨x289, x290, x291, x292, x293, M294⟩ hf H locs ls hP hS hl
        unfold f_X12_fit_b42 at hf
        refine lv_iload hx hb dX12_fit_42 (lv_at hl 8 rfl) ?_
        refine lv_bipush (v := 8) hx hb dX12_fit_44 (by decide) ?_
        refine lv_icmp_ge (tgt := 120) hx hb dX12_fit_46 (by decide) (fun hc => ?_) (fun hc => ?_)
        · have hf := (OB_t hf hc)
          exact (it_e hf) _ _ _ hP hS (lv_sub hl [3, 4, 5, 6] rfl)
        · have hf := (OB_f hf hc)
          refine lv_iconst (v := 0) hx hb dX12_fit_49 (by decide) ?_
          refine lv_istore (lv' := [(9, .int 0), (0, .ref (xa G 132)), (1, .int a1), (2, .int a2), (3, .int a3), (4, .int x289), (5, .int x290), (6, .int x291), (7, .int x292), (8, .int x293)]) hx hb dX12_fit_50 hl (by decide) rfl (fun ls hl => ?_)
          refine xj (fun (zz : (Int32 × Int32 × Int32 × Int32 × Int32 × Mem)) => match zz with | (x356, x357, x358, x359, x360, M361) => ∀ (H : Heap) (locs : List Loc) (ls : Array Slot), va_P G.1 vwCl (wl G M361 h) H → va_S (Aw G) s.heap H locs → lv_has ls 11 [(0, .ref (xa G 132)), (1, .int a1), (2, .int a2), (3, .int a3), (4, .int x356), (5, .int x357), (6, .int x358), (7, .int x359), (8, .int x360)] → W p l e rm_X12_fit s m args below meth c H locs 0 0 Q (F0 m 114 ls [])) hf ?_ (fun hf => ?_)
          · rintro ⟨x356, x357, x358, x359, x360, M361⟩ hf H locs ls hP hS hl
            refine lv_iinc (v := (x360 + 1)) (lv' := [(8, .int (x360 + 1)), (0, .ref (xa G 132)), (1, .int a1), (2, .int a2), (3, .int a3), (4, .int x356), (5, .int x357), (6, .int x358), (7, .int x359)]) hx hb dX12_fit_114 hl (k := 8) rfl rfl (by decide) rfl (fun ls hl => ?_)
            refine lv_goto (tgt := 42) hx hb dX12_fit_117 (by decide) ?_
            exact (it_c hf) _ _ _ hP hS (lv_sub hl [1, 2, 3, 4, 5, 6, 7, 8, 0] rfl)
          · refine (it_W (fun (zz : (Int32 × Int32 × Int32 × Int32 × Int32 × Int32 × Mem)) => match zz with | (x349, x350, x351, x352, x353, x354, M355) => ∀ (H : Heap) (locs : List Loc) (ls : Array Slot), va_P G.1 vwCl (wl G M355 h) H → va_S (Aw G) s.heap H locs → lv_has ls 11 [(0, .ref (xa G 132)), (1, .int a1), (2, .int a2), (3, .int a3), (4, .int x349), (5, .int x350), (6, .int x351), (7, .int x352), (8, .int x353), (9, .int x354)] → W p l e rm_X12_fit s m args below meth c H locs 0 0 Q (F0 m 52 ls [])) hf ?_) _ _ _ hP hS (lv_sub hl [1, 2, 3, 4, 5, 6, 7, 8, 9, 0] rfl)
            rintro ⟨x349, x350, x351, x352, x353, x354, M355⟩ hf H locs ls hP hS hl
            unfold f_X12_fit_b52 at hf
            refine lv_iload hx hb dX12_fit_52 (lv_at hl 9 rfl) ?_
            refine lv_bipush (v := 16) hx hb dX12_fit_54 (by decide) ?_
            refine lv_icmp_ge (tgt := 114) hx hb dX12_fit_56 (by decide) (fun hc => ?_) (fun hc => ?_)
            · have hf := (OB_t hf hc)
              exact (it_e hf) _ _ _ hP hS (lv_sub hl [0, 1, 2, 3, 4, 5, 6, 7, 8] rfl)
            · have hf := (OB_f hf hc)
              refine lv_aload_n hx hb dX12_fit_59 rfl (lv_at hl 0 rfl) ?_
              refine lv_iload_n hx hb dX12_fit_60 rfl (lv_at hl 1 rfl) ?_
              refine lv_iload_n hx hb dX12_fit_61 rfl (lv_at hl 2 rfl) ?_
              refine lv_iload hx hb dX12_fit_62 (lv_at hl 8 rfl) ?_
              refine lv_iload hx hb dX12_fit_64 (lv_at hl 9 rfl) ?_
              refine x_cz1 (rest := []) (x_runV C hE hP hS ykX12_isCounted lkX12_175 sh132 rfl (c_X12_isCounted (OB_bind hf)) (by decide) rfl hl.1 (Nat.le_of_ble_eq_true rfl) dX12_fit_66) hS (fun r362 M363 H locs hf hP hS => ?_)
              refine xj (fun (zz : (Int32 × Int32 × Int32 × Int32)) => match zz with | (x372, x373, x374, x375) => ∀ (H : Heap) (locs : List Loc) (ls : Array Slot), va_P G.1 vwCl (wl G M363 h) H → va_S (Aw G) s.heap H locs → lv_has ls 11 [(0, .ref (xa G 132)), (1, .int a1), (2, .int a2), (3, .int a3), (4, .int x372), (5, .int x373), (6, .int x374), (7, .int x375), (8, .int x353), (9, .int x354)] → W p l e rm_X12_fit s m args below meth c H locs 0 0 Q (F0 m 108 ls [])) hf ?_ (fun hf => ?_)
              · rintro ⟨x372, x373, x374, x375⟩ hf H locs ls hP hS hl
                refine lv_iinc (v := (x354 + 1)) (lv' := [(9, .int (x354 + 1)), (0, .ref (xa G 132)), (1, .int a1), (2, .int a2), (3, .int a3), (4, .int x372), (5, .int x373), (6, .int x374), (7, .int x375), (8, .int x353)]) hx hb dX12_fit_108 hl (k := 9) rfl rfl (by decide) rfl (fun ls hl => ?_)
                refine lv_goto (tgt := 52) hx hb dX12_fit_111 (by decide) ?_
                exact (it_c hf) _ _ _ hP hS (lv_sub hl [1, 2, 3, 4, 5, 6, 7, 8, 9, 0] rfl)
              · skip
                refine lv_if_eq (tgt := 108) hx hb dX12_fit_69 (by decide) (fun hc => ?_) (fun hc => ?_)
                · have hf := (OB_f hf (bI_f hc))
                  exact (OB_some hf) _ _ _ hP hS (lv_sub hl [0, 1, 2, 3, 4, 5, 6, 7, 8, 9] rfl)
                · have hf := (OB_t hf (bI_t hc))
                  refine lv_aload_n hx hb dX12_fit_72 rfl (lv_at hl 0 rfl) ?_
                  refine x_ci0 (rest := []) (x_runV C hE hP hS ykX12_cost lkX12_179 sh132 rfl (c_X12_cost (OB_bind hf)) (by decide) rfl hl.1 (Nat.le_of_ble_eq_true rfl) dX12_fit_73) hS (fun r376 H locs hf hP hS => ?_)
                  refine lv_istore (lv' := [(10, .int r376), (0, .ref (xa G 132)), (1, .int a1), (2, .int a2), (3, .int a3), (4, .int x349), (5, .int x350), (6, .int x351), (7, .int x352), (8, .int x353), (9, .int x354)]) hx hb dX12_fit_76 hl (by decide) rfl (fun ls hl => ?_)
                  refine lv_iload hx hb dX12_fit_78 (lv_at hl 5 rfl) ?_
                  refine xj (fun (zz : (Int32 × Int32 × Int32)) => match zz with | (x377, x378, x379) => ∀ (H : Heap) (locs : List Loc) (ls : Array Slot), va_P G.1 vwCl (wl G M363 h) H → va_S (Aw G) s.heap H locs → lv_has ls 11 [(0, .ref (xa G 132)), (1, .int a1), (2, .int a2), (3, .int a3), (4, .int x349), (5, .int x377), (6, .int x378), (7, .int x379), (8, .int x353), (9, .int x354)] → W p l e rm_X12_fit s m args below meth c H locs 0 0 Q (F0 m 105 ls [])) hf ?_ (fun hf => ?_)
                  · rintro ⟨x377, x378, x379⟩ hf H locs ls hP hS hl
                    refine lv_iinc (v := (x349 + 1)) (lv' := [(4, .int (x349 + 1)), (0, .ref (xa G 132)), (1, .int a1), (2, .int a2), (3, .int a3), (5, .int x377), (6, .int x378), (7, .int x379), (8, .int x353), (9, .int x354)]) hx hb dX12_fit_105 hl (k := 4) rfl rfl (by decide) rfl (fun ls hl => ?_)
                    exact (OB_some hf) _ _ _ hP hS (lv_sub hl [1, 2, 3, 4, 0, 5, 6, 7, 8, 9] rfl)
                  · skip
                    refine lv_if_eq (tgt := 90) hx hb dX12_fit_80 (by decide) (fun hc => ?_) (fun hc => ?_)
                    · have hf := (OB_t hf hc)
                      refine lv_iload hx hb dX12_fit_90 (lv_at hl 9 rfl) ?_
                      refine lv_bipush (v := 7) hx hb dX12_fit_92 (by decide) ?_
                      refine lv_iadd hx hb dX12_fit_94 ?_
                      refine lv_istore (lv' := [(5, .int (x353 + 7)), (10, .int r376), (0, .ref (xa G 132)), (1, .int a1), (2, .int a2), (3, .int a3), (4, .int x349), (6, .int x351), (7, .int x352), (8, .int x353), (9, .int x354)]) hx hb dX12_fit_95 hl (by decide) rfl (fun ls hl => ?_)
                      refine lv_iload hx hb dX12_fit_97 (lv_at hl 10 rfl) ?_
                      refine lv_istore (lv' := [(6, .int x354), (5, .int (x353 + 7)), (10, .int r376), (0, .ref (xa G 132)), (1, .int a1), (2, .int a2), (3, .int a3), (4, .int x349), (7, .int x352), (8, .int x353), (9, .int x354)]) hx hb dX12_fit_99 hl (by decide) rfl (fun ls hl => ?_)
                      refine lv_iload hx hb dX12_fit_101 (lv_at hl 2 rfl) ?_
                      refine lv_istore (lv' := [(7, .int r376), (6, .int x354), (5, .int (x353 + 7)), (10, .int r376), (0, .ref (xa G 132)), (1, .int a1), (2, .int a2), (3, .int a3), (4, .int x349), (8, .int x353), (9, .int x354)]) hx hb dX12_fit_103 hl (by decide) rfl (fun ls hl => ?_)
                      exact (OB_some hf) _ _ _ hP hS (lv_sub hl [4, 5, 6, 7, 8, 2, 1, 0, 9, 10] rfl)
                    · have hf := (OB_f hf hc)
                      refine lv_iload hx hb dX12_fit_83 (lv_at hl 0 rfl) ?_
                      refine lv_iload hx hb dX12_fit_85 (lv_at hl 8 rfl) ?_
                      refine lv_icmp_ge (tgt := 105) hx hb dX12_fit_87 (by decide) (fun hc => ?_) (fun hc => ?_)
                      · have hf := (OB_t hf hc)
                        exact (OB_some hf) _ _ _ hP hS (lv_sub hl [1, 2, 3, 4, 5, 6, 7, 8, 9, 10] rfl)
                      · have hf := (OB_f hf hc)
                        refine lv_iload hx hb dX12_fit_90 (lv_at hl 9 rfl) ?_
                        refine lv_bipush (v := 7) hx hb dX12_fit_92 (by decide) ?_
                        refine lv_iadd hx hb dX12_fit_94 ?_
                        refine lv_istore (lv' := [(5, .int (x353 + 7)), (10, .int r376), (0, .ref (xa G 132)), (1, .int a1), (2, .int a2), (3, .int a3), (4, .int x349), (6, .int x351), (7, .int x352), (8, .int x353), (9, .int x354)]) hx hb dX12_fit_95 hl (by decide) rfl (fun ls hl => ?_)
                        refine lv_iload hx hb dX12_fit_97 (lv_at hl 10 rfl) ?_
                        refine lv_istore (lv' := [(6, .int x354), (5, .int (x353 + 7)), (10, .int r376), (0, .ref (xa G 132)), (1, .int a1), (2, .int a2), (3, .int a3), (4, .int x349), (7, .int x352), (8, .int x353), (9, .int x354)]) hx hb dX12_fit_99 hl (by decide) rfl (fun ls hl => ?_)
                        refine lv_iload hx hb dX12_fit_101 (lv_at hl 2 rfl) ?_
                        refine lv_istore (lv' := [(7, .int r376), (6, .int x354), (5, .int (x353 + 7)), (10, .int r376), (0, .ref (xa G 132)), (1, .int a1), (2, .int a2), (3, .int a3), (4, .int x349), (8, .int x353), (9, .int x354)]) hx hb dX12_fit_103 hl (by decide) rfl (fun ls hl => ?_)
                        exact (OB_some hf) _ _ _ hP hS (lv_sub hl [4, 5, 6, 7, 8, 2, 1, 0, 9, 10] rfl)
    · have hf := (OB_f hf (bI_f hc))
      refine lv_bipush (v := -102) hx hb dX12_fit_23 (by decide) ?_
      exact hret _ _ _ _ _ _ (OB_some hf) hP hS dX12_fit_25
  · have hf := (OB_f hf (bI_f hc))
    refine lv_bipush (v := -101) hx hb dX12_fit_8 (by decide) ?_
    exact hret _ _ _ _ _ _ (OB_some hf) hP hS dX12_fit_10
def rm_X12_common : Room := { frames := 0, cells := 0, slots := 0, locals := 0 }
set_option maxRecDepth 100000 in
set_option maxHeartbeats 8000000 in
theorem c_X12_common {l : Launch} {G : GG} {a0 : Int32} {a1 : Int32} {M : Mem} {h : Int64}  {P9 : Int32 → Prop} (hf : OB (f_X12_common a0 a1) P9) : Met1 l yX12_common cX12_common 5 (some .int) rm_X12_common G [.int a0, .int a1] M h (QI0 G M h P9) := by
  unfold f_X12_common at hf
  refine xm_i0 (by decide) (Nat.le_of_ble_eq_true rfl) ?_
  intro p e s m args below meth c ls Q C hE hret hP hS hl
  have C : CallFix p m c cX12_common 5 s args TB RX12 := C
  have hx := C.1
  have hb := C.2.1
  have hl : lv_has ls 5 [(0, .int a0), (1, .int a1)] := hl
  refine lv_iload_n hx hb dX12_common_0 rfl (lv_at hl 0 rfl) ?_
  refine lv_istore_n (lv' := [(2, .int a0), (0, .int a0), (1, .int a1)]) hx hb dX12_common_1 rfl hl (by decide) rfl (fun ls hl => ?_)
  refine lv_iload_n hx hb dX12_common_2 rfl (lv_at hl 2 rfl) ?_
  refine lv_istore_n (lv' := [(3, .int a1), (2, .int a0), (0, .int a0), (1, .int a1)]) hx hb dX12_common_3 rfl hl (by decide) rfl (fun ls hl => ?_)
  refine xj (fun (x9 : Int32) => ∀ (H : Heap) (locs : List Loc) (ls : Array Slot), va_P G.1 vwCl (wl G M h) H → va_S (Aw G) s.heap H locs → lv_has ls 5 [(3, .int x9)] → W p l e rm_X12_common s m args below meth c H locs 0 0 Q (F0 m 21 ls [])) hf ?_ (fun hf => ?_)
  · rintro x9 hf H locs ls hP hS hl
    refine lv_iload_n hx hb dX12_common_21 rfl (lv_at hl 0 rfl) ?_
    exact hret _ _ _ _ _ (OB_some hf) hP hS dX12_common_22
  · refine (it_W (fun (zz : (Int32 × Int32)) => match zz with | (x7, x8) => ∀ (H : Heap) (locs : List Loc) (ls : Array Slot), va_P G.1 vwCl (wl G M h) H → va_S (Aw G) s.heap H locs → lv_has ls 5 [(2, .int x7), (3, .int x8)] → W p l e rm_X12_common s m args below meth c H locs 0 0 Q (F0 m 4 ls [])) hf ?_) _ _ _ hP hS (lv_sub hl [1, 0] rfl)
    rintro ⟨x7, x8⟩ hf H locs ls hP hS hl
    unfold f_X12_common_b4 at hf
    refine lv_iload_n hx hb dX12_common_4 rfl (lv_at hl 0 rfl) ?_
    refine lv_if_eq (tgt := 21) hx hb dX12_common_5 (by decide) (fun hc => ?_) (fun hc => ?_)
    · have hf := (OB_t hf hc)
      exact (it_e hf) _ _ _ hP hS (lv_sub hl [1] rfl)
    · have hf := (OB_f hf hc)
      refine lv_iload_n hx hb dX12_common_8 rfl (lv_at hl 1 rfl) ?_
      refine lv_iload_n hx hb dX12_common_9 rfl (lv_at hl 0 rfl) ?_
      obtain ⟨g10, hf⟩ := OB_g hf
      refine x_irem C dX12_common_10 g10 ?_
      refine lv_istore (lv' := [(4, .int (jrem x8 x7)), (2, .int x7), (3, .int x8)]) hx hb dX12_common_11 hl (by decide) rfl (fun ls hl => ?_)
      refine lv_iload_n hx hb dX12_common_13 rfl (lv_at hl 1 rfl) ?_
      refine lv_istore_n (lv' := [(3, .int x7), (4, .int (jrem x8 x7)), (2, .int x7)]) hx hb dX12_common_14 rfl hl (by decide) rfl (fun ls hl => ?_)
      refine lv_iload hx hb dX12_common_15 (lv_at hl 1 rfl) ?_
      refine lv_istore_n (lv' := [(2, .int (jrem x8 x7)), (3, .int x7), (4, .int (jrem x8 x7))]) hx hb dX12_common_17 rfl hl (by decide) rfl (fun ls hl => ?_)
      refine lv_goto (tgt := 4) hx hb dX12_common_18 (by decide) ?_
      exact (it_c hf) _ _ _ hP hS (lv_sub hl [0, 1] rfl)
def rm_X12_chance : Room := { frames := 4, cells := 0, slots := 0, locals := 87 }
set_option maxRecDepth 100000 in
set_option maxHeartbeats 8000000 in
theorem c_X12_chance {l : Launch} {G : GG} {a1 : Int32} {a2 : Int32} {a3 : Int32} {a4 : Int32} {a5 : Int32} {M : Mem} {h : Int64}  {P9 : (Int32 × Mem) → Prop} (hf : OB (f_X12_chance a1 a2 a3 a4 a5 M) P9) : Met1 l yX12_chance cX12_chance 12 (some .int) rm_X12_chance G [.ref (xa G 132), .int a1, .int a2, .int a3, .int a4, .int a5] M h (QI1 G h P9) := by
  unfold f_X12_chance at hf
  refine xm_i1 (by decide) (Nat.le_of_ble_eq_true rfl) ?_
  intro p e s m args below meth c ls Q C hE hret hP hS hl
  have C : CallFix p m c cX12_chance 12 s args TB RX12 := C
  have hx := C.1
  have hb := C.2.1
  have hl : lv_has ls 12 [(0, .ref (xa G 132)), (1, .int a1), (2, .int a2), (3, .int a3), (4, .int a4), (5, .int a5)] := hl
  refine lv_iload_n hx hb dX12_chance_0 rfl (lv_at hl 1 rfl) ?_
  refine lv_iload_n hx hb dX12_chance_1 rfl (lv_at hl 2 rfl) ?_
  refine x_cz0 (rest := []) (x_runS C hE hP hS ykX12_isPair lkX12_167 (c_X12_isPair (OB_bind hf)) (by decide) rfl hl.1 (Nat.le_of_ble_eq_true rfl) dX12_chance_2) hS (fun r1 H locs hf hP hS => ?_)
  refine lv_if_ne (tgt := 11) hx hb dX12_chance_5 (by decide) (fun hc => ?_) (fun hc => ?_)
  · have hf := (OB_t hf (bI_t hc))
    refine lv_iload_n hx hb dX12_chance_11 rfl (lv_at hl 3 rfl) ?_
    refine lv_iload hx hb dX12_chance_12 (lv_at hl 4 rfl) ?_
    refine x_cz0 (rest := []) (x_runS C hE hP hS ykX12_isPlace lkX12_171 (c_X12_isPlace (OB_bind hf)) (by decide) rfl hl.1 (Nat.le_of_ble_eq_true rfl) dX12_chance_14) hS (fun r2 H locs hf hP hS => ?_)
    refine lv_if_eq (tgt := 31) hx hb dX12_chance_17 (by decide) (fun hc => ?_) (fun hc => ?_)
    · have hf := (OB_f hf (bI_f hc))
      refine lv_bipush (v := -102) hx hb dX12_chance_31 (by decide) ?_
      exact hret _ _ _ _ _ _ (OB_some hf) hP hS dX12_chance_33
    · have hf := (OB_t hf (bI_t hc))
      refine lv_iload hx hb dX12_chance_20 (lv_at hl 5 rfl) ?_
      refine lv_i2l hx hb dX12_chance_22 rfl ?_
      refine lv_lconst (v := 0) hx hb dX12_chance_23 (by decide) ?_
      refine lv_lconst (v := 1) hx hb dX12_chance_24 (by decide) ?_
      refine x_cz0 (rest := []) (x_runS C hE hP hS ykX12_in lkX12_92 (c_X12_in (OB_bind hf)) (by decide) rfl hl.1 (Nat.le_of_ble_eq_true rfl) dX12_chance_25) hS (fun r3 H locs hf hP hS => ?_)
      refine lv_if_ne (tgt := 34) hx hb dX12_chance_28 (by decide) (fun hc => ?_) (fun hc => ?_)
      · have hf := (OB_t hf (bI_t hc))
        refine lv_aload_n hx hb dX12_chance_34 rfl (lv_at hl 0 rfl) ?_
        refine lv_iload_n hx hb dX12_chance_35 rfl (lv_at hl 1 rfl) ?_
        refine lv_iload_n hx hb dX12_chance_36 rfl (lv_at hl 2 rfl) ?_
        refine lv_iload_n hx hb dX12_chance_37 rfl (lv_at hl 3 rfl) ?_
        refine lv_iload hx hb dX12_chance_38 (lv_at hl 4 rfl) ?_
        refine x_cz1 (rest := []) (x_runV C hE hP hS ykX12_isCounted lkX12_175 sh132 rfl (c_X12_isCounted (OB_bind hf)) (by decide) rfl hl.1 (Nat.le_of_ble_eq_true rfl) dX12_chance_40) hS (fun r4 M5 H locs hf hP hS => ?_)
        refine lv_if_ne (tgt := 49) hx hb dX12_chance_43 (by decide) (fun hc => ?_) (fun hc => ?_)
        · have hf := (OB_t hf (bI_t hc))
          refine lv_aload_n hx hb dX12_chance_49 rfl (lv_at hl 0 rfl) ?_
          refine x_ci0 (rest := []) (x_runV C hE hP hS ykX12_cost lkX12_179 sh132 rfl (c_X12_cost (OB_bind hf)) (by decide) rfl hl.1 (Nat.le_of_ble_eq_true rfl) dX12_chance_50) hS (fun r6 H locs hf hP hS => ?_)
          refine lv_istore (lv' := [(6, .int r6), (0, .ref (xa G 132)), (1, .int a1), (2, .int a2), (3, .int a3), (4, .int a4), (5, .int a5)]) hx hb dX12_chance_53 hl (by decide) rfl (fun ls hl => ?_)
          refine lv_iconst (v := 0) hx hb dX12_chance_55 (by decide) ?_
          refine lv_istore (lv' := [(7, .int 0), (6, .int r6), (0, .ref (xa G 132)), (1, .int a1), (2, .int a2), (3, .int a3), (4, .int a4), (5, .int a5)]) hx hb dX12_chance_56 hl (by decide) rfl (fun ls hl => ?_)
          refine lv_iconst (v := 0) hx hb dX12_chance_58 (by decide) ?_
          refine lv_istore (lv' := [(8, .int 0), (7, .int 0), (6, .int r6), (0, .ref (xa G 132)), (1, .int a1), (2, .int a2), (3, .int a3), (4, .int a4), (5, .int a5)]) hx hb dX12_chance_59 hl (by decide) rfl (fun ls hl => ?_)
          refine lv_bipush (v := -7) hx hb dX12_chance_61 (by decide) ?_
          refine lv_istore (lv' := [(9, .int (-7)), (8, .int 0), (7, .int 0), (6, .int r6), (0, .ref (xa G 132)), (1, .int a1), (2, .int a2), (3, .int a3), (4, .int a4), (5, .int a5)]) hx hb dX12_chance_63 hl (by decide) rfl (fun ls hl => ?_)
          refine xj (fun (zz : (Int32 × Int32 × Mem)) => match zz with | (x155, x156, M157) => ∀ (H : Heap) (locs : List Loc) (ls : Array Slot), va_P G.1 vwCl (wl G M157 h) H → va_S (Aw G) s.heap H locs → lv_has ls 12 [(5, .int a5), (7, .int x155), (8, .int x156)] → W p l e rm_X12_chance s m args below meth c H locs 0 0 Q (F0 m 145 ls [])) hf ?_ (fun hf => ?_)
          · rintro ⟨x155, x156, M157⟩ hf H locs ls hP hS hl
            refine lv_iload hx hb dX12_chance_145 (lv_at hl 0 rfl) ?_
            refine xj (fun (x198 : Int32) => ∀ (H : Heap) (locs : List Loc) (ls : Array Slot), va_P G.1 vwCl (wl G M157 h) H → va_S (Aw G) s.heap H locs → lv_has ls 12 [(7, .int x155), (8, .int x156)] → W p l e rm_X12_chance s m args below meth c H locs 0 0 Q (F0 m 157 ls [.int x198])) hf ?_ (fun hf => ?_)
            · rintro x198 hf H locs ls hP hS hl
              refine lv_iload hx hb dX12_chance_157 (lv_at hl 1 rfl) ?_
              refine lv_iload hx hb dX12_chance_159 (lv_at hl 0 rfl) ?_
              refine x_ci0 (rest := [.int x198]) (x_runS C hE hP hS ykX12_common lkX12_186 (c_X12_common (OB_bind hf)) (by decide) rfl hl.1 (Nat.le_of_ble_eq_true rfl) dX12_chance_161) hS (fun r199 H locs hf hP hS => ?_)
              obtain ⟨g200, hf⟩ := OB_g hf
              refine lv_idiv hx hb dX12_chance_164 g200 ?_
              exact hret _ _ _ _ _ _ (OB_some hf) hP hS dX12_chance_165
            · skip
              refine lv_if_ne (tgt := 155) hx hb dX12_chance_147 (by decide) (fun hc => ?_) (fun hc => ?_)
              · have hf := (OB_f hf hc)
                refine lv_iload hx hb dX12_chance_155 (lv_at hl 1 rfl) ?_
                exact (OB_some hf) _ _ _ hP hS (lv_sub hl [1, 2] rfl)
              · have hf := (OB_t hf hc)
                refine lv_iload hx hb dX12_chance_150 (lv_at hl 2 rfl) ?_
                refine lv_goto (tgt := 157) hx hb dX12_chance_152 (by decide) ?_
                exact (OB_some hf) _ _ _ hP hS (lv_sub hl [1, 2] rfl)
          · refine (it_W (fun (zz : (Int32 × Int32 × Int32 × Mem)) => match zz with | (x151, x152, x153, M154) => ∀ (H : Heap) (locs : List Loc) (ls : Array Slot), va_P G.1 vwCl (wl G M154 h) H → va_S (Aw G) s.heap H locs → lv_has ls 12 [(0, .ref (xa G 132)), (1, .int a1), (2, .int a2), (5, .int a5), (6, .int r6), (7, .int x151), (8, .int x152), (9, .int x153)] → W p l e rm_X12_chance s m args below meth c H locs 0 0 Q (F0 m 65 ls [])) hf ?_) _ _ _ hP hS (lv_sub hl [4, 5, 6, 9, 3, 2, 1, 0] rfl)
            rintro ⟨x151, x152, x153, M154⟩ hf H locs ls hP hS hl
            unfold f_X12_chance_b65 at hf
            refine lv_iload hx hb dX12_chance_65 (lv_at hl 7 rfl) ?_
            refine lv_bipush (v := 8) hx hb dX12_chance_67 (by decide) ?_
            refine lv_icmp_ge (tgt := 145) hx hb dX12_chance_69 (by decide) (fun hc => ?_) (fun hc => ?_)
            · have hf := (OB_t hf hc)
              exact (it_e hf) _ _ _ hP hS (lv_sub hl [3, 5, 6] rfl)
            · have hf := (OB_f hf hc)
              refine lv_iconst (v := 0) hx hb dX12_chance_72 (by decide) ?_
              refine lv_istore (lv' := [(10, .int 0), (0, .ref (xa G 132)), (1, .int a1), (2, .int a2), (5, .int a5), (6, .int r6), (7, .int x151), (8, .int x152), (9, .int x153)]) hx hb dX12_chance_73 hl (by decide) rfl (fun ls hl => ?_)
              refine xj (fun (zz : (Int32 × Int32 × Int32 × Mem)) => match zz with | (x187, x188, x189, M190) => ∀ (H : Heap) (locs : List Loc) (ls : Array Slot), va_P G.1 vwCl (wl G M190 h) H → va_S (Aw G) s.heap H locs → lv_has ls 12 [(0, .ref (xa G 132)), (1, .int a1), (2, .int a2), (5, .int a5), (6, .int r6), (7, .int x187), (8, .int x188), (9, .int x189)] → W p l e rm_X12_chance s m args below meth c H locs 0 0 Q (F0 m 139 ls [])) hf ?_ (fun hf => ?_)
              · rintro ⟨x187, x188, x189, M190⟩ hf H locs ls hP hS hl
                refine lv_iinc (v := (x189 + 1)) (lv' := [(9, .int (x189 + 1)), (0, .ref (xa G 132)), (1, .int a1), (2, .int a2), (5, .int a5), (6, .int r6), (7, .int x187), (8, .int x188)]) hx hb dX12_chance_139 hl (k := 7) rfl rfl (by decide) rfl (fun ls hl => ?_)
                refine lv_goto (tgt := 65) hx hb dX12_chance_142 (by decide) ?_
                exact (it_c hf) _ _ _ hP hS (lv_sub hl [1, 2, 3, 4, 5, 6, 7, 0] rfl)
              · refine (it_W (fun (zz : (Int32 × Int32 × Int32 × Int32 × Mem)) => match zz with | (x182, x183, x184, x185, M186) => ∀ (H : Heap) (locs : List Loc) (ls : Array Slot), va_P G.1 vwCl (wl G M186 h) H → va_S (Aw G) s.heap H locs → lv_has ls 12 [(0, .ref (xa G 132)), (1, .int a1), (2, .int a2), (5, .int a5), (6, .int r6), (7, .int x182), (8, .int x183), (9, .int x184), (10, .int x185)] → W p l e rm_X12_chance s m args below meth c H locs 0 0 Q (F0 m 75 ls [])) hf ?_) _ _ _ hP hS (lv_sub hl [1, 2, 3, 4, 5, 6, 7, 8, 0] rfl)
                rintro ⟨x182, x183, x184, x185, M186⟩ hf H locs ls hP hS hl
                unfold f_X12_chance_b75 at hf
                refine lv_iload hx hb dX12_chance_75 (lv_at hl 8 rfl) ?_
                refine lv_bipush (v := 16) hx hb dX12_chance_77 (by decide) ?_
                refine lv_icmp_ge (tgt := 139) hx hb dX12_chance_79 (by decide) (fun hc => ?_) (fun hc => ?_)
                · have hf := (OB_t hf hc)
                  exact (it_e hf) _ _ _ hP hS (lv_sub hl [0, 1, 2, 3, 4, 5, 6, 7] rfl)
                · have hf := (OB_f hf hc)
                  refine lv_aload_n hx hb dX12_chance_82 rfl (lv_at hl 0 rfl) ?_
                  refine lv_iload_n hx hb dX12_chance_83 rfl (lv_at hl 1 rfl) ?_
                  refine lv_iload_n hx hb dX12_chance_84 rfl (lv_at hl 2 rfl) ?_
                  refine lv_iload hx hb dX12_chance_85 (lv_at hl 7 rfl) ?_
                  refine lv_iload hx hb dX12_chance_87 (lv_at hl 8 rfl) ?_
                  refine x_cz1 (rest := []) (x_runV C hE hP hS ykX12_isCounted lkX12_175 sh132 rfl (c_X12_isCounted (OB_bind hf)) (by decide) rfl hl.1 (Nat.le_of_ble_eq_true rfl) dX12_chance_89) hS (fun r191 M192 H locs hf hP hS => ?_)
                  refine lv_istore (lv' := [(11, .int (bI r191)), (0, .ref (xa G 132)), (1, .int a1), (2, .int a2), (5, .int a5), (6, .int r6), (7, .int x182), (8, .int x183), (9, .int x184), (10, .int x185)]) hx hb dX12_chance_92 hl (by decide) rfl (fun ls hl => ?_)
                  refine lv_iload hx hb dX12_chance_94 (lv_at hl 6 rfl) ?_
                  refine lv_iload hx hb dX12_chance_96 (lv_at hl 0 rfl) ?_
                  refine xj (fun (x193 : Bool) => ∀ (H : Heap) (locs : List Loc) (ls : Array Slot), va_P G.1 vwCl (wl G M192 h) H → va_S (Aw G) s.heap H locs → lv_has ls 12 [(0, .ref (xa G 132)), (1, .int a1), (2, .int a2), (5, .int a5), (6, .int r6), (8, .int x183), (9, .int x184), (10, .int x185), (11, .int (bI r191))] → W p l e rm_X12_chance s m args below meth c H locs 0 0 Q (F0 m 106 ls [.int (bI x193), .int x182])) hf ?_ (fun hf => ?_)
                  · rintro x193 hf H locs ls hP hS hl
                    refine lv_iadd hx hb dX12_chance_106 ?_
                    refine lv_istore (lv' := [(7, .int (x182 + (bI x193))), (0, .ref (xa G 132)), (1, .int a1), (2, .int a2), (5, .int a5), (6, .int r6), (8, .int x183), (9, .int x184), (10, .int x185), (11, .int (bI r191))]) hx hb dX12_chance_107 hl (by decide) rfl (fun ls hl => ?_)
                    refine lv_iload hx hb dX12_chance_109 (lv_at hl 6 rfl) ?_
                    refine lv_iload hx hb dX12_chance_111 (lv_at hl 9 rfl) ?_
                    refine xj (fun (x196 : Bool) => ∀ (H : Heap) (locs : List Loc) (ls : Array Slot), va_P G.1 vwCl (wl G M192 h) H → va_S (Aw G) s.heap H locs → lv_has ls 12 [(0, .ref (xa G 132)), (1, .int a1), (2, .int a2), (5, .int a5), (6, .int r6), (7, .int (x182 + (bI x193))), (9, .int x184), (10, .int x185)] → W p l e rm_X12_chance s m args below meth c H locs 0 0 Q (F0 m 130 ls [.int (bI x196), .int x183])) hf ?_ (fun hf => ?_)
                    · rintro x196 hf H locs ls hP hS hl
                      refine lv_iadd hx hb dX12_chance_130 ?_
                      refine lv_istore (lv' := [(8, .int (x183 + (bI x196))), (0, .ref (xa G 132)), (1, .int a1), (2, .int a2), (5, .int a5), (6, .int r6), (7, .int (x182 + (bI x193))), (9, .int x184), (10, .int x185)]) hx hb dX12_chance_131 hl (by decide) rfl (fun ls hl => ?_)
                      refine lv_iinc (v := (x185 + 1)) (lv' := [(10, .int (x185 + 1)), (8, .int (x183 + (bI x196))), (0, .ref (xa G 132)), (1, .int a1), (2, .int a2), (5, .int a5), (6, .int r6), (7, .int (x182 + (bI x193))), (9, .int x184)]) hx hb dX12_chance_133 hl (k := 8) rfl rfl (by decide) rfl (fun ls hl => ?_)
                      refine lv_goto (tgt := 75) hx hb dX12_chance_136 (by decide) ?_
                      exact (it_c hf) _ _ _ hP hS (lv_sub hl [2, 3, 4, 5, 6, 7, 1, 8, 0] rfl)
                    · skip
                      refine lv_if_eq (tgt := 129) hx hb dX12_chance_113 (by decide) (fun hc => ?_) (fun hc => ?_)
                      · have hf := (OB_f hf (bI_f hc))
                        refine lv_iconst (v := 0) hx hb dX12_chance_129 (by decide) ?_
                        refine W.eq (g2 := F0 m 130 ls [.int (bI false), .int x183]) rfl ?_
                        exact (OB_some hf) _ _ _ hP hS (lv_sub hl [1, 2, 3, 4, 5, 0, 7, 8] rfl)
                      · have hf := (OB_t hf (bI_t hc))
                        refine lv_aload_n hx hb dX12_chance_116 rfl (lv_at hl 1 rfl) ?_
                        refine x_ci0 (rest := [.int x183]) (x_runV C hE hP hS ykX12_cost lkX12_179 sh132 rfl (c_X12_cost (OB_bind hf)) (by decide) rfl hl.1 (Nat.le_of_ble_eq_true rfl) dX12_chance_117) hS (fun r197 H locs hf hP hS => ?_)
                        refine lv_iload hx hb dX12_chance_120 (lv_at hl 5 rfl) ?_
                        refine lv_icmp_gt (tgt := 129) hx hb dX12_chance_122 (by decide) (fun hc => ?_) (fun hc => ?_)
                        · have hf := (OB_t hf hc)
                          refine lv_iconst (v := 0) hx hb dX12_chance_129 (by decide) ?_
                          refine W.eq (g2 := F0 m 130 ls [.int (bI false), .int x183]) rfl ?_
                          exact (OB_some hf) _ _ _ hP hS (lv_sub hl [1, 2, 3, 4, 5, 0, 7, 8] rfl)
                        · have hf := (OB_f hf hc)
                          refine lv_iconst (v := 1) hx hb dX12_chance_125 (by decide) ?_
                          refine lv_goto (tgt := 130) hx hb dX12_chance_126 (by decide) ?_
                          refine W.eq (g2 := F0 m 130 ls [.int (bI true), .int x183]) rfl ?_
                          exact (OB_some hf) _ _ _ hP hS (lv_sub hl [1, 2, 3, 4, 5, 0, 7, 8] rfl)
                  · skip
                    refine lv_if_eq (tgt := 105) hx hb dX12_chance_98 (by decide) (fun hc => ?_) (fun hc => ?_)
                    · have hf := (OB_f hf (bI_f hc))
                      refine lv_iconst (v := 0) hx hb dX12_chance_105 (by decide) ?_
                      refine W.eq (g2 := F0 m 106 ls [.int (bI false), .int x182]) rfl ?_
                      exact (OB_some hf) _ _ _ hP hS (lv_sub hl [1, 2, 3, 4, 5, 7, 8, 9, 0] rfl)
                    · have hf := (OB_t hf (bI_t hc))
                      refine lv_iconst (v := 1) hx hb dX12_chance_101 (by decide) ?_
                      refine lv_goto (tgt := 106) hx hb dX12_chance_102 (by decide) ?_
                      refine W.eq (g2 := F0 m 106 ls [.int (bI true), .int x182]) rfl ?_
                      exact (OB_some hf) _ _ _ hP hS (lv_sub hl [1, 2, 3, 4, 5, 7, 8, 9, 0] rfl)
        · have hf := (OB_f hf (bI_f hc))
          refine lv_bipush (v := -103) hx hb dX12_chance_46 (by decide) ?_
          exact hret _ _ _ _ _ _ (OB_some hf) hP hS dX12_chance_48
      · have hf := (OB_f hf (bI_f hc))
        refine lv_bipush (v := -102) hx hb dX12_chance_31 (by decide) ?_
        exact hret _ _ _ _ _ _ (OB_some hf) hP hS dX12_chance_33
  · have hf := (OB_f hf (bI_f hc))
    refine lv_bipush (v := -101) hx hb dX12_chance_8 (by decide) ?_
    exact hret _ _ _ _ _ _ (OB_some hf) hP hS dX12_chance_10
def rm_X12_asGreat : Room := { frames := 3, cells := 0, slots := 0, locals := 75 }
set_option maxRecDepth 100000 in
set_option maxHeartbeats 8000000 in
theorem c_X12_asGreat {l : Launch} {G : GG} {a1 : Int32} {a2 : Int32} {a3 : Int32} {a4 : Int32} {a5 : Int32} {M : Mem} {h : Int64}  {P9 : (Int32 × Mem) → Prop} (hf : OB (f_X12_asGreat a1 a2 a3 a4 a5 M) P9) : Met1 l yX12_asGreat cX12_asGreat 7 (some .int) rm_X12_asGreat G [.ref (xa G 132), .int a1, .int a2, .int a3, .int a4, .int a5] M h (QI1 G h P9) := by
  unfold f_X12_asGreat at hf
  refine xm_i1 (by decide) (Nat.le_of_ble_eq_true rfl) ?_
  intro p e s m args below meth c ls Q C hE hret hP hS hl
  have C : CallFix p m c cX12_asGreat 7 s args TB RX12 := C
  have hx := C.1
  have hb := C.2.1
  have hl : lv_has ls 7 [(0, .ref (xa G 132)), (1, .int a1), (2, .int a2), (3, .int a3), (4, .int a4), (5, .int a5)] := hl
  refine lv_iload_n hx hb dX12_asGreat_0 rfl (lv_at hl 3 rfl) ?_
  refine lv_i2l hx hb dX12_asGreat_1 rfl ?_
  refine lv_ldc2 hx hb C.2.2.2.1 (C.2.2.2.2 _ ckX12_165) dX12_asGreat_2 ?_
  refine lv_ldc2 hx hb C.2.2.2.1 (C.2.2.2.2 _ ckX12_112) dX12_asGreat_5 ?_
  refine x_cz0 (rest := []) (x_runS C hE hP hS ykX12_in lkX12_92 (c_X12_in (OB_bind hf)) (by decide) rfl hl.1 (Nat.le_of_ble_eq_true rfl) dX12_asGreat_8) hS (fun r1 H locs hf hP hS => ?_)
  refine xj (fun (zz : (Bool × Mem)) => match zz with | (x6, M7) => ∀ (H : Heap) (locs : List Loc) (ls : Array Slot), va_P G.1 vwCl (wl G M7 h) H → va_S (Aw G) s.heap H locs → lv_has ls 7 [(0, .ref (xa G 132)), (1, .int a1), (2, .int a2), (3, .int a3), (4, .int a4), (5, .int a5)] → W p l e rm_X12_asGreat s m args below meth c H locs 0 0 Q (F0 m 31 ls [.int (bI x6)])) hf ?_ (fun hf => ?_)
  · rintro ⟨x6, M7⟩ hf H locs ls hP hS hl
    refine lv_istore (lv' := [(6, .int (bI x6)), (0, .ref (xa G 132)), (1, .int a1), (2, .int a2), (3, .int a3), (4, .int a4), (5, .int a5)]) hx hb dX12_asGreat_31 hl (by decide) rfl (fun ls hl => ?_)
    refine lv_iload hx hb dX12_asGreat_33 (lv_at hl 0 rfl) ?_
    refine xj (fun (x12 : Bool) => ∀ (H : Heap) (locs : List Loc) (ls : Array Slot), va_P G.1 vwCl (wl G M7 h) H → va_S (Aw G) s.heap H locs → lv_has ls 7 [] → W p l e rm_X12_asGreat s m args below meth c H locs 0 0 Q (F0 m 57 ls [.int (bI x12)])) hf ?_ (fun hf => ?_)
    · rintro x12 hf H locs ls hP hS hl
      exact hret _ _ _ _ _ _ (OB_some hf) hP hS dX12_asGreat_57
    · skip
      refine lv_if_eq (tgt := 56) hx hb dX12_asGreat_35 (by decide) (fun hc => ?_) (fun hc => ?_)
      · have hf := (OB_f hf (bI_f hc))
        refine lv_iconst (v := 0) hx hb dX12_asGreat_56 (by decide) ?_
        refine W.eq (g2 := F0 m 57 ls [.int (bI false)]) rfl ?_
        exact (OB_some hf) _ _ _ hP hS (lv_sub hl [] rfl)
      · have hf := (OB_t hf (bI_t hc))
        refine lv_aload_n hx hb dX12_asGreat_38 rfl (lv_at hl 1 rfl) ?_
        refine lv_iload_n hx hb dX12_asGreat_39 rfl (lv_at hl 2 rfl) ?_
        refine lv_iload_n hx hb dX12_asGreat_40 rfl (lv_at hl 3 rfl) ?_
        refine lv_iload_n hx hb dX12_asGreat_41 rfl (lv_at hl 4 rfl) ?_
        refine lv_iload hx hb dX12_asGreat_42 (lv_at hl 5 rfl) ?_
        refine x_ci0 (rest := []) (x_runV C hE hP hS ykX12_onOf lkX12_182 sh132 rfl (c_X12_onOf (OB_bind hf)) (by decide) rfl hl.1 (Nat.le_of_ble_eq_true rfl) dX12_asGreat_44) hS (fun r13 H locs hf hP hS => ?_)
        refine lv_iload hx hb dX12_asGreat_47 (lv_at hl 6 rfl) ?_
        refine lv_icmp_lt (tgt := 56) hx hb dX12_asGreat_49 (by decide) (fun hc => ?_) (fun hc => ?_)
        · have hf := (OB_t hf hc)
          refine lv_iconst (v := 0) hx hb dX12_asGreat_56 (by decide) ?_
          refine W.eq (g2 := F0 m 57 ls [.int (bI false)]) rfl ?_
          exact (OB_some hf) _ _ _ hP hS (lv_sub hl [] rfl)
        · have hf := (OB_f hf hc)
          refine lv_iconst (v := 1) hx hb dX12_asGreat_52 (by decide) ?_
          refine lv_goto (tgt := 57) hx hb dX12_asGreat_53 (by decide) ?_
          refine W.eq (g2 := F0 m 57 ls [.int (bI true)]) rfl ?_
          exact (OB_some hf) _ _ _ hP hS (lv_sub hl [] rfl)
  · skip
    refine lv_if_eq (tgt := 30) hx hb dX12_asGreat_11 (by decide) (fun hc => ?_) (fun hc => ?_)
    · have hf := (OB_f hf (bI_f hc))
      refine lv_iconst (v := 0) hx hb dX12_asGreat_30 (by decide) ?_
      refine W.eq (g2 := F0 m 31 ls [.int (bI false)]) rfl ?_
      exact (OB_some hf) _ _ _ hP hS (lv_sub hl [0, 1, 2, 3, 4, 5] rfl)
    · have hf := (OB_t hf (bI_t hc))
      refine lv_aload_n hx hb dX12_asGreat_14 rfl (lv_at hl 0 rfl) ?_
      refine lv_iload_n hx hb dX12_asGreat_15 rfl (lv_at hl 1 rfl) ?_
      refine lv_iload_n hx hb dX12_asGreat_16 rfl (lv_at hl 2 rfl) ?_
      refine lv_iload_n hx hb dX12_asGreat_17 rfl (lv_at hl 3 rfl) ?_
      refine lv_iload hx hb dX12_asGreat_18 (lv_at hl 4 rfl) ?_
      refine x_cz1 (rest := []) (x_runV C hE hP hS ykX12_lay lkX12_161 sh132 rfl (c_X12_lay (OB_bind hf)) (by decide) rfl hl.1 (Nat.le_of_ble_eq_true rfl) dX12_asGreat_20) hS (fun r8 M9 H locs hf hP hS => ?_)
      refine lv_if_eq (tgt := 30) hx hb dX12_asGreat_23 (by decide) (fun hc => ?_) (fun hc => ?_)
      · have hf := (OB_f hf (bI_f hc))
        refine lv_iconst (v := 0) hx hb dX12_asGreat_30 (by decide) ?_
        refine W.eq (g2 := F0 m 31 ls [.int (bI false)]) rfl ?_
        exact (OB_some hf) _ _ _ hP hS (lv_sub hl [0, 1, 2, 3, 4, 5] rfl)
      · have hf := (OB_t hf (bI_t hc))
        refine lv_iconst (v := 1) hx hb dX12_asGreat_26 (by decide) ?_
        refine lv_goto (tgt := 31) hx hb dX12_asGreat_27 (by decide) ?_
        refine W.eq (g2 := F0 m 31 ls [.int (bI true)]) rfl ?_
        exact (OB_some hf) _ _ _ hP hS (lv_sub hl [0, 1, 2, 3, 4, 5] rfl)
def rm_X12_beside : Room := { frames := 4, cells := 0, slots := 0, locals := 101 }
set_option maxRecDepth 100000 in
set_option maxHeartbeats 8000000 in
theorem c_X12_beside {l : Launch} {G : GG} {a1 : Int32} {a2 : Int32} {a3 : Int32} {a4 : Int32} {M : Mem} {h : Int64}  {P9 : (Int32 × Mem) → Prop} (hf : OB (f_X12_beside a1 a2 a3 a4 M) P9) : Met1 l yX12_beside cX12_beside 6 (some .int) rm_X12_beside G [.ref (xa G 132), .int a1, .int a2, .int a3, .int a4] M h (QI1 G h P9) := by
  unfold f_X12_beside at hf
  refine xm_i1 (by decide) (Nat.le_of_ble_eq_true rfl) ?_
  intro p e s m args below meth c ls Q C hE hret hP hS hl
  have C : CallFix p m c cX12_beside 6 s args TB RX12 := C
  have hx := C.1
  have hb := C.2.1
  have hl : lv_has ls 6 [(0, .ref (xa G 132)), (1, .int a1), (2, .int a2), (3, .int a3), (4, .int a4)] := hl
  refine lv_iload_n hx hb dX12_beside_0 rfl (lv_at hl 1 rfl) ?_
  refine lv_iload_n hx hb dX12_beside_1 rfl (lv_at hl 2 rfl) ?_
  refine x_cz0 (rest := []) (x_runS C hE hP hS ykX12_isPair lkX12_167 (c_X12_isPair (OB_bind hf)) (by decide) rfl hl.1 (Nat.le_of_ble_eq_true rfl) dX12_beside_2) hS (fun r1 H locs hf hP hS => ?_)
  refine lv_if_ne (tgt := 11) hx hb dX12_beside_5 (by decide) (fun hc => ?_) (fun hc => ?_)
  · have hf := (OB_t hf (bI_t hc))
    refine lv_iload_n hx hb dX12_beside_11 rfl (lv_at hl 3 rfl) ?_
    refine lv_iload hx hb dX12_beside_12 (lv_at hl 4 rfl) ?_
    refine x_cz0 (rest := []) (x_runS C hE hP hS ykX12_isPlace lkX12_171 (c_X12_isPlace (OB_bind hf)) (by decide) rfl hl.1 (Nat.le_of_ble_eq_true rfl) dX12_beside_14) hS (fun r2 H locs hf hP hS => ?_)
    refine lv_if_ne (tgt := 23) hx hb dX12_beside_17 (by decide) (fun hc => ?_) (fun hc => ?_)
    · have hf := (OB_t hf (bI_t hc))
      refine lv_aload_n hx hb dX12_beside_23 rfl (lv_at hl 0 rfl) ?_
      refine lv_iload_n hx hb dX12_beside_24 rfl (lv_at hl 1 rfl) ?_
      refine lv_iload_n hx hb dX12_beside_25 rfl (lv_at hl 2 rfl) ?_
      refine lv_iload_n hx hb dX12_beside_26 rfl (lv_at hl 3 rfl) ?_
      refine lv_iload hx hb dX12_beside_27 (lv_at hl 4 rfl) ?_
      refine x_cz1 (rest := []) (x_runV C hE hP hS ykX12_lay lkX12_161 sh132 rfl (c_X12_lay (OB_bind hf)) (by decide) rfl hl.1 (Nat.le_of_ble_eq_true rfl) dX12_beside_29) hS (fun r3 M4 H locs hf hP hS => ?_)
      refine lv_if_ne (tgt := 38) hx hb dX12_beside_32 (by decide) (fun hc => ?_) (fun hc => ?_)
      · have hf := (OB_t hf (bI_t hc))
        refine lv_aload_n hx hb dX12_beside_38 rfl (lv_at hl 0 rfl) ?_
        refine lv_iload_n hx hb dX12_beside_39 rfl (lv_at hl 1 rfl) ?_
        refine lv_iload_n hx hb dX12_beside_40 rfl (lv_at hl 2 rfl) ?_
        refine lv_iload_n hx hb dX12_beside_41 rfl (lv_at hl 3 rfl) ?_
        refine lv_iload hx hb dX12_beside_42 (lv_at hl 4 rfl) ?_
        refine x_ci0 (rest := []) (x_runV C hE hP hS ykX12_onOf lkX12_182 sh132 rfl (c_X12_onOf (OB_bind hf)) (by decide) rfl hl.1 (Nat.le_of_ble_eq_true rfl) dX12_beside_44) hS (fun r5 H locs hf hP hS => ?_)
        refine lv_istore (lv' := [(5, .int r5), (0, .ref (xa G 132)), (1, .int a1), (2, .int a2), (3, .int a3), (4, .int a4)]) hx hb dX12_beside_47 hl (by decide) rfl (fun ls hl => ?_)
        refine lv_aload_n hx hb dX12_beside_49 rfl (lv_at hl 1 rfl) ?_
        refine lv_iload_n hx hb dX12_beside_50 rfl (lv_at hl 2 rfl) ?_
        refine lv_iload_n hx hb dX12_beside_51 rfl (lv_at hl 3 rfl) ?_
        refine lv_iload_n hx hb dX12_beside_52 rfl (lv_at hl 4 rfl) ?_
        refine lv_iconst (v := 1) hx hb dX12_beside_53 (by decide) ?_
        refine lv_isub hx hb dX12_beside_54 ?_
        refine lv_iload hx hb dX12_beside_55 (lv_at hl 5 rfl) ?_
        refine lv_iload hx hb dX12_beside_57 (lv_at hl 0 rfl) ?_
        refine x_ci1 (rest := []) (x_runV C hE hP hS ykX12_asGreat lkX12_189 sh132 rfl (c_X12_asGreat (OB_bind hf)) (by decide) rfl hl.1 (Nat.le_of_ble_eq_true rfl) dX12_beside_59) hS (fun r6 M7 H locs hf hP hS => ?_)
        refine lv_aload_n hx hb dX12_beside_62 rfl (lv_at hl 1 rfl) ?_
        refine lv_iload_n hx hb dX12_beside_63 rfl (lv_at hl 2 rfl) ?_
        refine lv_iload_n hx hb dX12_beside_64 rfl (lv_at hl 3 rfl) ?_
        refine lv_iload_n hx hb dX12_beside_65 rfl (lv_at hl 4 rfl) ?_
        refine lv_iconst (v := 1) hx hb dX12_beside_66 (by decide) ?_
        refine lv_iadd hx hb dX12_beside_67 ?_
        refine lv_iload hx hb dX12_beside_68 (lv_at hl 5 rfl) ?_
        refine lv_iload hx hb dX12_beside_70 (lv_at hl 0 rfl) ?_
        refine x_ci1 (rest := [.int r6]) (x_runV C hE hP hS ykX12_asGreat lkX12_189 sh132 rfl (c_X12_asGreat (OB_bind hf)) (by decide) rfl hl.1 (Nat.le_of_ble_eq_true rfl) dX12_beside_72) hS (fun r8 M9 H locs hf hP hS => ?_)
        refine lv_iadd hx hb dX12_beside_75 ?_
        refine lv_aload_n hx hb dX12_beside_76 rfl (lv_at hl 1 rfl) ?_
        refine lv_iload_n hx hb dX12_beside_77 rfl (lv_at hl 2 rfl) ?_
        refine lv_iload_n hx hb dX12_beside_78 rfl (lv_at hl 3 rfl) ?_
        refine lv_iload_n hx hb dX12_beside_79 rfl (lv_at hl 4 rfl) ?_
        refine lv_iload hx hb dX12_beside_80 (lv_at hl 5 rfl) ?_
        refine lv_bipush (v := 15) hx hb dX12_beside_82 (by decide) ?_
        refine lv_iadd hx hb dX12_beside_84 ?_
        refine lv_bipush (v := 16) hx hb dX12_beside_85 (by decide) ?_
        refine x_irem C dX12_beside_87 (by decide) ?_
        refine lv_iload hx hb dX12_beside_88 (lv_at hl 0 rfl) ?_
        refine x_ci1 (rest := [.int (r6 + r8)]) (x_runV C hE hP hS ykX12_asGreat lkX12_189 sh132 rfl (c_X12_asGreat (OB_bind hf)) (by decide) rfl hl.1 (Nat.le_of_ble_eq_true rfl) dX12_beside_90) hS (fun r10 M11 H locs hf hP hS => ?_)
        refine lv_iadd hx hb dX12_beside_93 ?_
        refine lv_aload_n hx hb dX12_beside_94 rfl (lv_at hl 1 rfl) ?_
        refine lv_iload_n hx hb dX12_beside_95 rfl (lv_at hl 2 rfl) ?_
        refine lv_iload_n hx hb dX12_beside_96 rfl (lv_at hl 3 rfl) ?_
        refine lv_iload_n hx hb dX12_beside_97 rfl (lv_at hl 4 rfl) ?_
        refine lv_iload hx hb dX12_beside_98 (lv_at hl 5 rfl) ?_
        refine lv_iconst (v := 1) hx hb dX12_beside_100 (by decide) ?_
        refine lv_iadd hx hb dX12_beside_101 ?_
        refine lv_bipush (v := 16) hx hb dX12_beside_102 (by decide) ?_
        refine x_irem C dX12_beside_104 (by decide) ?_
        refine lv_iload hx hb dX12_beside_105 (lv_at hl 0 rfl) ?_
        refine x_ci1 (rest := [.int ((r6 + r8) + r10)]) (x_runV C hE hP hS ykX12_asGreat lkX12_189 sh132 rfl (c_X12_asGreat (OB_bind hf)) (by decide) rfl hl.1 (Nat.le_of_ble_eq_true rfl) dX12_beside_107) hS (fun r12 M13 H locs hf hP hS => ?_)
        refine lv_iadd hx hb dX12_beside_110 ?_
        exact hret _ _ _ _ _ _ (OB_some hf) hP hS dX12_beside_111
      · have hf := (OB_f hf (bI_f hc))
        refine lv_bipush (v := -103) hx hb dX12_beside_35 (by decide) ?_
        exact hret _ _ _ _ _ _ (OB_some hf) hP hS dX12_beside_37
    · have hf := (OB_f hf (bI_f hc))
      refine lv_bipush (v := -102) hx hb dX12_beside_20 (by decide) ?_
      exact hret _ _ _ _ _ _ (OB_some hf) hP hS dX12_beside_22
  · have hf := (OB_f hf (bI_f hc))
    refine lv_bipush (v := -101) hx hb dX12_beside_8 (by decide) ?_
    exact hret _ _ _ _ _ _ (OB_some hf) hP hS dX12_beside_10
def rm_X12_letters : Room := { frames := 0, cells := 0, slots := 0, locals := 0 }
set_option maxRecDepth 100000 in
set_option maxHeartbeats 8000000 in
theorem c_X12_letters {l : Launch} {G : GG} {a1 : Int64} {M : Mem} {h : Int64}  {P9 : (Int32 × Mem) → Prop} (hf : OB (f_X12_letters a1 M) P9) : Met1 l yX12_letters cX12_letters 9 (some .int) rm_X12_letters G [.ref (xa G 132), .long a1] M h (QI1 G h P9) := by
  unfold f_X12_letters at hf
  refine xm_i1 (by decide) (Nat.le_of_ble_eq_true rfl) ?_
  intro p e s m args below meth c ls Q C hE hret hP hS hl
  have C : CallFix p m c cX12_letters 9 s args TB RX12 := C
  have hx := C.1
  have hb := C.2.1
  have hl : lv_has ls 9 [(0, .ref (xa G 132)), (1, .long a1)] := hl
  refine lv_iconst (v := 0) hx hb dX12_letters_0 (by decide) ?_
  refine lv_istore_n (lv' := [(3, .int 0), (0, .ref (xa G 132)), (1, .long a1)]) hx hb dX12_letters_1 rfl hl (by decide) rfl (fun ls hl => ?_)
  refine lv_iconst (v := 1) hx hb dX12_letters_2 (by decide) ?_
  refine lv_istore (lv' := [(4, .int 1), (3, .int 0), (0, .ref (xa G 132)), (1, .long a1)]) hx hb dX12_letters_3 hl (by decide) rfl (fun ls hl => ?_)
  refine lv_lload_n hx hb dX12_letters_5 rfl (lv_at hl 3 rfl) ?_
  refine lv_lstore (lv' := [(5, .long a1), (4, .int 1), (3, .int 0), (0, .ref (xa G 132)), (1, .long a1)]) hx hb dX12_letters_6 hl (by decide) rfl (fun ls hl => ?_)
  refine lv_iconst (v := 0) hx hb dX12_letters_8 (by decide) ?_
  refine lv_istore (lv' := [(7, .int 0), (5, .long a1), (4, .int 1), (3, .int 0), (0, .ref (xa G 132)), (1, .long a1)]) hx hb dX12_letters_9 hl (by decide) rfl (fun ls hl => ?_)
  refine xj (fun (zz : (Int32 × Bool)) => match zz with | (x23, x24) => ∀ (H : Heap) (locs : List Loc) (ls : Array Slot), va_P G.1 vwCl (wl G M h) H → va_S (Aw G) s.heap H locs → lv_has ls 9 [(0, .ref (xa G 132)), (1, .long a1), (3, .int x23), (4, .int (bI x24))] → W p l e rm_X12_letters s m args below meth c H locs 0 0 Q (F0 m 83 ls [])) hf ?_ (fun hf => ?_)
  · rintro ⟨x23, x24⟩ hf H locs ls hP hS hl
    refine lv_iload hx hb dX12_letters_83 (lv_at hl 3 rfl) ?_
    refine lv_if_ne (tgt := 91) hx hb dX12_letters_85 (by decide) (fun hc => ?_) (fun hc => ?_)
    · have hf := (OB_t hf (bI_t hc))
      refine lv_aload_n hx hb dX12_letters_91 rfl (lv_at hl 0 rfl) ?_
      refine gfX12_195 C hE hP dX12_letters_92 ?_
      refine lv_iload_n hx hb dX12_letters_95 rfl (lv_at hl 2 rfl) ?_
      refine lv_iadd hx hb dX12_letters_96 ?_
      refine lv_bipush (v := 50) hx hb dX12_letters_97 (by decide) ?_
      refine lv_icmp_le (tgt := 105) hx hb dX12_letters_99 (by decide) (fun hc => ?_) (fun hc => ?_)
      · have hf := (OB_t hf hc)
        refine lv_iconst (v := 0) hx hb dX12_letters_105 (by decide) ?_
        refine lv_istore (lv' := [(7, .int 0), (0, .ref (xa G 132)), (1, .long a1), (3, .int x23), (4, .int (bI x24))]) hx hb dX12_letters_106 hl (by decide) rfl (fun ls hl => ?_)
        refine xj (fun (M35 : Mem) => ∀ (H : Heap) (locs : List Loc) (ls : Array Slot), va_P G.1 vwCl (wl G M35 h) H → va_S (Aw G) s.heap H locs → lv_has ls 9 [(0, .ref (xa G 132))] → W p l e rm_X12_letters s m args below meth c H locs 0 0 Q (F0 m 151 ls [])) hf ?_ (fun hf => ?_)
        · rintro M35 hf H locs ls hP hS hl
          refine lv_aload_n hx hb dX12_letters_151 rfl (lv_at hl 0 rfl) ?_
          refine gfX12_195 C hE hP dX12_letters_152 ?_
          exact hret _ _ _ _ _ _ (OB_some hf) hP hS dX12_letters_155
        · refine (it_W (fun (zz : (Int32 × Mem)) => match zz with | (x33, M34) => ∀ (H : Heap) (locs : List Loc) (ls : Array Slot), va_P G.1 vwCl (wl G M34 h) H → va_S (Aw G) s.heap H locs → lv_has ls 9 [(0, .ref (xa G 132)), (1, .long a1), (3, .int x23), (7, .int x33)] → W p l e rm_X12_letters s m args below meth c H locs 0 0 Q (F0 m 108 ls [])) hf ?_) _ _ _ hP hS (lv_sub hl [1, 2, 3, 0] rfl)
          rintro ⟨x33, M34⟩ hf H locs ls hP hS hl
          unfold f_X12_letters_b108 at hf
          refine lv_iload hx hb dX12_letters_108 (lv_at hl 3 rfl) ?_
          refine lv_iload_n hx hb dX12_letters_110 rfl (lv_at hl 2 rfl) ?_
          refine lv_icmp_ge (tgt := 151) hx hb dX12_letters_111 (by decide) (fun hc => ?_) (fun hc => ?_)
          · have hf := (OB_t hf hc)
            exact (it_e hf) _ _ _ hP hS (lv_sub hl [0] rfl)
          · have hf := (OB_f hf hc)
            refine lv_aload_n hx hb dX12_letters_114 rfl (lv_at hl 0 rfl) ?_
            refine gfX12_25 C hE hP dX12_letters_115 ?_
            refine lv_aload_n hx hb dX12_letters_118 rfl (lv_at hl 0 rfl) ?_
            refine gfX12_195 C hE hP dX12_letters_119 ?_
            refine lv_lload_n hx hb dX12_letters_122 rfl (lv_at hl 1 rfl) ?_
            refine lv_bipush (v := 8) hx hb dX12_letters_123 (by decide) ?_
            refine lv_iload hx hb dX12_letters_125 (lv_at hl 3 rfl) ?_
            refine lv_imul hx hb dX12_letters_127 ?_
            refine x_lushr C dX12_letters_128 ?_
            refine lv_ldc2 hx hb C.2.2.2.1 (C.2.2.2.2 _ ckX12_193) dX12_letters_129 ?_
            refine lv_land hx hb dX12_letters_132 ?_
            refine lv_l2i hx hb dX12_letters_133 rfl ?_
            obtain ⟨g36, hf⟩ := OB_g hf
            refine x_iast C hE hP hS sh138 g36 dX12_letters_134 (fun H locs hP hS => ?_)
            refine lv_aload_n hx hb dX12_letters_135 rfl (lv_at hl 0 rfl) ?_
            refine lv_dup hx hb dX12_letters_136 rfl ?_
            refine gfX12_195 C hE hP dX12_letters_137 ?_
            refine lv_iconst (v := 1) hx hb dX12_letters_140 (by decide) ?_
            refine lv_iadd hx hb dX12_letters_141 ?_
            refine pfX12_195 C hE hP hS dX12_letters_142 (fun H locs hP hS => ?_)
            refine lv_iinc (v := (x33 + 1)) (lv' := [(7, .int (x33 + 1)), (0, .ref (xa G 132)), (1, .long a1), (3, .int x23)]) hx hb dX12_letters_145 hl (k := 3) rfl rfl (by decide) rfl (fun ls hl => ?_)
            refine lv_goto (tgt := 108) hx hb dX12_letters_148 (by decide) ?_
            exact (it_c hf) _ _ _ hP hS (lv_sub hl [1, 2, 3, 0] rfl)
      · have hf := (OB_f hf hc)
        refine lv_bipush (v := -104) hx hb dX12_letters_102 (by decide) ?_
        exact hret _ _ _ _ _ _ (OB_some hf) hP hS dX12_letters_104
    · have hf := (OB_f hf (bI_f hc))
      refine lv_bipush (v := -102) hx hb dX12_letters_88 (by decide) ?_
      exact hret _ _ _ _ _ _ (OB_some hf) hP hS dX12_letters_90
  · refine (it_W (fun (zz : (Int32 × Bool × Int64 × Int32)) => match zz with | (x19, x20, x21, x22) => ∀ (H : Heap) (locs : List Loc) (ls : Array Slot), va_P G.1 vwCl (wl G M h) H → va_S (Aw G) s.heap H locs → lv_has ls 9 [(0, .ref (xa G 132)), (1, .long a1), (3, .int x19), (4, .int (bI x20)), (5, .long x21), (7, .int x22)] → W p l e rm_X12_letters s m args below meth c H locs 0 0 Q (F0 m 11 ls [])) hf ?_) _ _ _ hP hS (lv_sub hl [4, 5, 3, 2, 1, 0] rfl)
    rintro ⟨x19, x20, x21, x22⟩ hf H locs ls hP hS hl
    unfold f_X12_letters_b11 at hf
    refine lv_iload hx hb dX12_letters_11 (lv_at hl 5 rfl) ?_
    refine lv_bipush (v := 8) hx hb dX12_letters_13 (by decide) ?_
    refine lv_icmp_ge (tgt := 83) hx hb dX12_letters_15 (by decide) (fun hc => ?_) (fun hc => ?_)
    · have hf := (OB_t hf hc)
      exact (it_e hf) _ _ _ hP hS (lv_sub hl [0, 1, 2, 3] rfl)
    · have hf := (OB_f hf hc)
      refine lv_lload hx hb dX12_letters_18 (lv_at hl 4 rfl) ?_
      refine lv_ldc2 hx hb C.2.2.2.1 (C.2.2.2.2 _ ckX12_193) dX12_letters_20 ?_
      refine lv_land hx hb dX12_letters_23 ?_
      refine lv_l2i hx hb dX12_letters_24 rfl ?_
      refine lv_istore (lv' := [(8, .int (Int64.toInt32 (x21 &&& 255))), (0, .ref (xa G 132)), (1, .long a1), (3, .int x19), (4, .int (bI x20)), (5, .long x21), (7, .int x22)]) hx hb dX12_letters_25 hl (by decide) rfl (fun ls hl => ?_)
      refine lv_lload hx hb dX12_letters_27 (lv_at hl 5 rfl) ?_
      refine lv_bipush (v := 8) hx hb dX12_letters_29 (by decide) ?_
      refine x_lushr C dX12_letters_31 ?_
      refine lv_lstore (lv' := [(5, .long (jlushr x21 8)), (8, .int (Int64.toInt32 (x21 &&& 255))), (0, .ref (xa G 132)), (1, .long a1), (3, .int x19), (4, .int (bI x20)), (7, .int x22)]) hx hb dX12_letters_32 hl (by decide) rfl (fun ls hl => ?_)
      refine lv_iload hx hb dX12_letters_34 (lv_at hl 5 rfl) ?_
      refine xj (fun (x25 : Bool) => ∀ (H : Heap) (locs : List Loc) (ls : Array Slot), va_P G.1 vwCl (wl G M h) H → va_S (Aw G) s.heap H locs → lv_has ls 9 [(0, .ref (xa G 132)), (1, .long a1), (3, .int x19), (5, .long (jlushr x21 8)), (7, .int x22), (8, .int (Int64.toInt32 (x21 &&& 255)))] → W p l e rm_X12_letters s m args below meth c H locs 0 0 Q (F0 m 62 ls [.int (bI x25)])) hf ?_ (fun hf => ?_)
      · rintro x25 hf H locs ls hP hS hl
        refine lv_istore (lv' := [(4, .int (bI x25)), (0, .ref (xa G 132)), (1, .long a1), (3, .int x19), (5, .long (jlushr x21 8)), (7, .int x22), (8, .int (Int64.toInt32 (x21 &&& 255)))]) hx hb dX12_letters_62 hl (by decide) rfl (fun ls hl => ?_)
        refine lv_iload_n hx hb dX12_letters_64 rfl (lv_at hl 3 rfl) ?_
        refine lv_iload hx hb dX12_letters_65 (lv_at hl 6 rfl) ?_
        refine xj (fun (x26 : Bool) => ∀ (H : Heap) (locs : List Loc) (ls : Array Slot), va_P G.1 vwCl (wl G M h) H → va_S (Aw G) s.heap H locs → lv_has ls 9 [(0, .ref (xa G 132)), (1, .long a1), (4, .int (bI x25)), (5, .long (jlushr x21 8)), (7, .int x22)] → W p l e rm_X12_letters s m args below meth c H locs 0 0 Q (F0 m 75 ls [.int (bI x26), .int x19])) hf ?_ (fun hf => ?_)
        · rintro x26 hf H locs ls hP hS hl
          refine lv_iadd hx hb dX12_letters_75 ?_
          refine lv_istore_n (lv' := [(3, .int (x19 + (bI x26))), (0, .ref (xa G 132)), (1, .long a1), (4, .int (bI x25)), (5, .long (jlushr x21 8)), (7, .int x22)]) hx hb dX12_letters_76 rfl hl (by decide) rfl (fun ls hl => ?_)
          refine lv_iinc (v := (x22 + 1)) (lv' := [(7, .int (x22 + 1)), (3, .int (x19 + (bI x26))), (0, .ref (xa G 132)), (1, .long a1), (4, .int (bI x25)), (5, .long (jlushr x21 8))]) hx hb dX12_letters_77 hl (k := 5) rfl rfl (by decide) rfl (fun ls hl => ?_)
          refine lv_goto (tgt := 11) hx hb dX12_letters_80 (by decide) ?_
          exact (it_c hf) _ _ _ hP hS (lv_sub hl [2, 3, 1, 4, 5, 0] rfl)
        · skip
          refine lv_if_le (tgt := 74) hx hb dX12_letters_67 (by decide) (fun hc => ?_) (fun hc => ?_)
          · have hf := (OB_t hf hc)
            refine lv_iconst (v := 0) hx hb dX12_letters_74 (by decide) ?_
            refine W.eq (g2 := F0 m 75 ls [.int (bI false), .int x19]) rfl ?_
            exact (OB_some hf) _ _ _ hP hS (lv_sub hl [1, 2, 0, 4, 5] rfl)
          · have hf := (OB_f hf hc)
            refine lv_iconst (v := 1) hx hb dX12_letters_70 (by decide) ?_
            refine lv_goto (tgt := 75) hx hb dX12_letters_71 (by decide) ?_
            refine W.eq (g2 := F0 m 75 ls [.int (bI true), .int x19]) rfl ?_
            exact (OB_some hf) _ _ _ hP hS (lv_sub hl [1, 2, 0, 4, 5] rfl)
      · skip
        refine lv_if_eq (tgt := 61) hx hb dX12_letters_36 (by decide) (fun hc => ?_) (fun hc => ?_)
        · have hf := (OB_f hf (bI_f hc))
          refine lv_iconst (v := 0) hx hb dX12_letters_61 (by decide) ?_
          refine W.eq (g2 := F0 m 62 ls [.int (bI false)]) rfl ?_
          exact (OB_some hf) _ _ _ hP hS (lv_sub hl [2, 3, 4, 0, 6, 1] rfl)
        · have hf := (OB_t hf (bI_t hc))
          refine lv_iload hx hb dX12_letters_39 (lv_at hl 1 rfl) ?_
          refine lv_bipush (v := 126) hx hb dX12_letters_41 (by decide) ?_
          refine lv_icmp_gt (tgt := 61) hx hb dX12_letters_43 (by decide) (fun hc => ?_) (fun hc => ?_)
          · have hf := (OB_t hf hc)
            refine lv_iconst (v := 0) hx hb dX12_letters_61 (by decide) ?_
            refine W.eq (g2 := F0 m 62 ls [.int (bI false)]) rfl ?_
            exact (OB_some hf) _ _ _ hP hS (lv_sub hl [2, 3, 4, 0, 6, 1] rfl)
          · have hf := (OB_f hf hc)
            refine lv_iload hx hb dX12_letters_46 (lv_at hl 1 rfl) ?_
            refine lv_if_eq (tgt := 57) hx hb dX12_letters_48 (by decide) (fun hc => ?_) (fun hc => ?_)
            · have hf := (OB_t hf hc)
              refine lv_iconst (v := 1) hx hb dX12_letters_57 (by decide) ?_
              refine lv_goto (tgt := 62) hx hb dX12_letters_58 (by decide) ?_
              refine W.eq (g2 := F0 m 62 ls [.int (bI true)]) rfl ?_
              exact (OB_some hf) _ _ _ hP hS (lv_sub hl [2, 3, 4, 0, 6, 1] rfl)
            · have hf := (OB_f hf hc)
              refine lv_iload_n hx hb dX12_letters_51 rfl (lv_at hl 4 rfl) ?_
              refine lv_iload hx hb dX12_letters_52 (lv_at hl 6 rfl) ?_
              refine lv_icmp_ne (tgt := 61) hx hb dX12_letters_54 (by decide) (fun hc => ?_) (fun hc => ?_)
              · have hf := (OB_f hf hc)
                refine lv_iconst (v := 0) hx hb dX12_letters_61 (by decide) ?_
                refine W.eq (g2 := F0 m 62 ls [.int (bI false)]) rfl ?_
                exact (OB_some hf) _ _ _ hP hS (lv_sub hl [2, 3, 4, 0, 6, 1] rfl)
              · have hf := (OB_t hf hc)
                refine lv_iconst (v := 1) hx hb dX12_letters_57 (by decide) ?_
                refine lv_goto (tgt := 62) hx hb dX12_letters_58 (by decide) ?_
                refine W.eq (g2 := F0 m 62 ls [.int (bI true)]) rfl ?_
                exact (OB_some hf) _ _ _ hP hS (lv_sub hl [2, 3, 4, 0, 6, 1] rfl)
def rm_X12_blank : Room := { frames := 0, cells := 0, slots := 0, locals := 0 }
set_option maxRecDepth 100000 in
set_option maxHeartbeats 8000000 in
theorem c_X12_blank {l : Launch} {G : GG}  {M : Mem} {h : Int64}  {P9 : (Int32 × Mem) → Prop} (hf : OB (f_X12_blank M) P9) : Met1 l yX12_blank cX12_blank 2 (some .int) rm_X12_blank G [.ref (xa G 132)] M h (QI1 G h P9) := by
  unfold f_X12_blank at hf
  refine xm_i1 (by decide) (Nat.le_of_ble_eq_true rfl) ?_
  intro p e s m args below meth c ls Q C hE hret hP hS hl
  have C : CallFix p m c cX12_blank 2 s args TB RX12 := C
  have hx := C.1
  have hb := C.2.1
  have hl : lv_has ls 2 [(0, .ref (xa G 132))] := hl
  refine lv_aload_n hx hb dX12_blank_0 rfl (lv_at hl 0 rfl) ?_
  refine gfX12_195 C hE hP dX12_blank_1 ?_
  refine lv_istore_n (lv' := [(1, .int (M 132 7)), (0, .ref (xa G 132))]) hx hb dX12_blank_4 rfl hl (by decide) rfl (fun ls hl => ?_)
  refine lv_aload_n hx hb dX12_blank_5 rfl (lv_at hl 1 rfl) ?_
  refine lv_iconst (v := 0) hx hb dX12_blank_6 (by decide) ?_
  refine pfX12_195 C hE hP hS dX12_blank_7 (fun H locs hP hS => ?_)
  refine lv_iload_n hx hb dX12_blank_10 rfl (lv_at hl 0 rfl) ?_
  exact hret _ _ _ _ _ _ (OB_some hf) hP hS dX12_blank_11
def rm_X12_wayOf : Room := { frames := 0, cells := 0, slots := 0, locals := 0 }
set_option maxRecDepth 100000 in
set_option maxHeartbeats 8000000 in
theorem c_X12_wayOf {l : Launch} {G : GG} {a0 : Int32} {M : Mem} {h : Int64}  {P9 : Int32 → Prop} (hf : OB (f_X12_wayOf a0) P9) : Met1 l yX12_wayOf cX12_wayOf 1 (some .int) rm_X12_wayOf G [.int a0] M h (QI0 G M h P9) := by
  unfold f_X12_wayOf at hf
  refine xm_i0 (by decide) (Nat.le_of_ble_eq_true rfl) ?_
  intro p e s m args below meth c ls Q C hE hret hP hS hl
  have C : CallFix p m c cX12_wayOf 1 s args TB RX12 := C
  have hx := C.1
  have hb := C.2.1
  have hl : lv_has ls 1 [(0, .int a0)] := hl
  refine lv_iload_n hx hb dX12_wayOf_0 rfl (lv_at hl 0 rfl) ?_
  refine lv_bipush (v := 74) hx hb dX12_wayOf_1 (by decide) ?_
  refine xj (fun (x1 : Int32) => ∀ (H : Heap) (locs : List Loc) (ls : Array Slot), va_P G.1 vwCl (wl G M h) H → va_S (Aw G) s.heap H locs → lv_has ls 1 [] → W p l e rm_X12_wayOf s m args below meth c H locs 0 0 Q (F0 m 41 ls [.int x1])) hf ?_ (fun hf => ?_)
  · rintro x1 hf H locs ls hP hS hl
    exact hret _ _ _ _ _ (OB_some hf) hP hS dX12_wayOf_41
  · skip
    refine lv_icmp_ne (tgt := 10) hx hb dX12_wayOf_3 (by decide) (fun hc => ?_) (fun hc => ?_)
    · have hf := (OB_f hf hc)
      refine lv_iload_n hx hb dX12_wayOf_10 rfl (lv_at hl 0 rfl) ?_
      refine lv_bipush (v := 66) hx hb dX12_wayOf_11 (by decide) ?_
      refine lv_icmp_ne (tgt := 20) hx hb dX12_wayOf_13 (by decide) (fun hc => ?_) (fun hc => ?_)
      · have hf := (OB_f hf hc)
        refine lv_iload_n hx hb dX12_wayOf_20 rfl (lv_at hl 0 rfl) ?_
        refine lv_bipush (v := 83) hx hb dX12_wayOf_21 (by decide) ?_
        refine lv_icmp_ne (tgt := 30) hx hb dX12_wayOf_23 (by decide) (fun hc => ?_) (fun hc => ?_)
        · have hf := (OB_f hf hc)
          refine lv_iload_n hx hb dX12_wayOf_30 rfl (lv_at hl 0 rfl) ?_
          refine lv_bipush (v := 67) hx hb dX12_wayOf_31 (by decide) ?_
          refine lv_icmp_ne (tgt := 40) hx hb dX12_wayOf_33 (by decide) (fun hc => ?_) (fun hc => ?_)
          · have hf := (OB_f hf hc)
            refine lv_iconst (v := -1) hx hb dX12_wayOf_40 (by decide) ?_
            exact (OB_some hf) _ _ _ hP hS (lv_sub hl [] rfl)
          · have hf := (OB_t hf hc)
            refine lv_iconst (v := 3) hx hb dX12_wayOf_36 (by decide) ?_
            refine lv_goto (tgt := 41) hx hb dX12_wayOf_37 (by decide) ?_
            exact (OB_some hf) _ _ _ hP hS (lv_sub hl [] rfl)
        · have hf := (OB_t hf hc)
          refine lv_iconst (v := 2) hx hb dX12_wayOf_26 (by decide) ?_
          refine lv_goto (tgt := 41) hx hb dX12_wayOf_27 (by decide) ?_
          exact (OB_some hf) _ _ _ hP hS (lv_sub hl [] rfl)
      · have hf := (OB_t hf hc)
        refine lv_iconst (v := 1) hx hb dX12_wayOf_16 (by decide) ?_
        refine lv_goto (tgt := 41) hx hb dX12_wayOf_17 (by decide) ?_
        exact (OB_some hf) _ _ _ hP hS (lv_sub hl [] rfl)
    · have hf := (OB_t hf hc)
      refine lv_iconst (v := 0) hx hb dX12_wayOf_6 (by decide) ?_
      refine lv_goto (tgt := 41) hx hb dX12_wayOf_7 (by decide) ?_
      exact (OB_some hf) _ _ _ hP hS (lv_sub hl [] rfl)
def rm_X12_letterOf : Room := { frames := 0, cells := 0, slots := 0, locals := 0 }
set_option maxRecDepth 100000 in
set_option maxHeartbeats 8000000 in
theorem c_X12_letterOf {l : Launch} {G : GG} {a0 : Int32} {M : Mem} {h : Int64}  {P9 : Int32 → Prop} (hf : OB (f_X12_letterOf a0) P9) : Met1 l yX12_letterOf cX12_letterOf 1 (some .int) rm_X12_letterOf G [.int a0] M h (QI0 G M h P9) := by
  unfold f_X12_letterOf at hf
  refine xm_i0 (by decide) (Nat.le_of_ble_eq_true rfl) ?_
  intro p e s m args below meth c ls Q C hE hret hP hS hl
  have C : CallFix p m c cX12_letterOf 1 s args TB RX12 := C
  have hx := C.1
  have hb := C.2.1
  have hl : lv_has ls 1 [(0, .int a0)] := hl
  refine lv_iload_n hx hb dX12_letterOf_0 rfl (lv_at hl 0 rfl) ?_
  refine lv_bipush (v := 100) hx hb dX12_letterOf_1 (by decide) ?_
  refine xj (fun (x1 : Int32) => ∀ (H : Heap) (locs : List Loc) (ls : Array Slot), va_P G.1 vwCl (wl G M h) H → va_S (Aw G) s.heap H locs → lv_has ls 1 [] → W p l e rm_X12_letterOf s m args below meth c H locs 0 0 Q (F0 m 31 ls [.int x1])) hf ?_ (fun hf => ?_)
  · rintro x1 hf H locs ls hP hS hl
    exact hret _ _ _ _ _ (OB_some hf) hP hS dX12_letterOf_31
  · skip
    refine lv_icmp_ne (tgt := 10) hx hb dX12_letterOf_3 (by decide) (fun hc => ?_) (fun hc => ?_)
    · have hf := (OB_f hf hc)
      refine lv_iload_n hx hb dX12_letterOf_10 rfl (lv_at hl 0 rfl) ?_
      refine lv_bipush (v := 101) hx hb dX12_letterOf_11 (by decide) ?_
      refine lv_icmp_ne (tgt := 20) hx hb dX12_letterOf_13 (by decide) (fun hc => ?_) (fun hc => ?_)
      · have hf := (OB_f hf hc)
        refine lv_iload_n hx hb dX12_letterOf_20 rfl (lv_at hl 0 rfl) ?_
        refine lv_bipush (v := 107) hx hb dX12_letterOf_21 (by decide) ?_
        refine lv_icmp_ne (tgt := 30) hx hb dX12_letterOf_23 (by decide) (fun hc => ?_) (fun hc => ?_)
        · have hf := (OB_f hf hc)
          refine lv_iconst (v := -1) hx hb dX12_letterOf_30 (by decide) ?_
          exact (OB_some hf) _ _ _ hP hS (lv_sub hl [] rfl)
        · have hf := (OB_t hf hc)
          refine lv_iconst (v := 2) hx hb dX12_letterOf_26 (by decide) ?_
          refine lv_goto (tgt := 31) hx hb dX12_letterOf_27 (by decide) ?_
          exact (OB_some hf) _ _ _ hP hS (lv_sub hl [] rfl)
      · have hf := (OB_t hf hc)
        refine lv_iconst (v := 1) hx hb dX12_letterOf_16 (by decide) ?_
        refine lv_goto (tgt := 31) hx hb dX12_letterOf_17 (by decide) ?_
        exact (OB_some hf) _ _ _ hP hS (lv_sub hl [] rfl)
    · have hf := (OB_t hf hc)
      refine lv_iconst (v := 0) hx hb dX12_letterOf_6 (by decide) ?_
      refine lv_goto (tgt := 31) hx hb dX12_letterOf_7 (by decide) ?_
      exact (OB_some hf) _ _ _ hP hS (lv_sub hl [] rfl)
def rm_X12_layMark : Room := { frames := 0, cells := 0, slots := 0, locals := 0 }
set_option maxRecDepth 100000 in
set_option maxHeartbeats 8000000 in
theorem c_X12_layMark {l : Launch} {G : GG} {a1 : Int32} {a2 : Int32} {M : Mem} {h : Int64}  {P9 : Mem → Prop} (hf : OB (f_X12_layMark a1 a2 M) P9) : Met1 l yX12_layMark cX12_layMark 3 none rm_X12_layMark G [.ref (xa G 132), .int a1, .int a2] M h (QV1 G h P9) := by
  unfold f_X12_layMark at hf
  refine xm_v1 (by decide) (Nat.le_of_ble_eq_true rfl) ?_
  intro p e s m args below meth c ls Q C hE hret hP hS hl
  have C : CallFix p m c cX12_layMark 3 s args TB RX12 := C
  have hx := C.1
  have hb := C.2.1
  have hl : lv_has ls 3 [(0, .ref (xa G 132)), (1, .int a1), (2, .int a2)] := hl
  refine lv_aload_n hx hb dX12_layMark_0 rfl (lv_at hl 0 rfl) ?_
  refine gfX12_46 C hE hP dX12_layMark_1 ?_
  refine lv_aload_n hx hb dX12_layMark_4 rfl (lv_at hl 0 rfl) ?_
  refine gfX12_198 C hE hP dX12_layMark_5 ?_
  refine lv_iload_n hx hb dX12_layMark_8 rfl (lv_at hl 1 rfl) ?_
  obtain ⟨g1, hf⟩ := OB_g hf
  refine x_iast C hE hP hS sh145 g1 dX12_layMark_9 (fun H locs hP hS => ?_)
  refine lv_aload_n hx hb dX12_layMark_10 rfl (lv_at hl 0 rfl) ?_
  refine gfX12_49 C hE hP dX12_layMark_11 ?_
  refine lv_aload_n hx hb dX12_layMark_14 rfl (lv_at hl 0 rfl) ?_
  refine gfX12_198 C hE hP dX12_layMark_15 ?_
  refine lv_iload_n hx hb dX12_layMark_18 rfl (lv_at hl 2 rfl) ?_
  obtain ⟨g2, hf⟩ := OB_g hf
  refine x_iast C hE hP hS sh146 g2 dX12_layMark_19 (fun H locs hP hS => ?_)
  refine lv_aload_n hx hb dX12_layMark_20 rfl (lv_at hl 0 rfl) ?_
  refine lv_dup hx hb dX12_layMark_21 rfl ?_
  refine gfX12_198 C hE hP dX12_layMark_22 ?_
  refine lv_iconst (v := 1) hx hb dX12_layMark_25 (by decide) ?_
  refine lv_iadd hx hb dX12_layMark_26 ?_
  refine pfX12_198 C hE hP hS dX12_layMark_27 (fun H locs hP hS => ?_)
  exact hret _ _ _ _ _ (OB_some hf) hP hS dX12_layMark_30
def rm_X12_layDown : Room := { frames := 1, cells := 0, slots := 0, locals := 22 }
set_option maxRecDepth 100000 in
set_option maxHeartbeats 8000000 in
theorem c_X12_layDown {l : Launch} {G : GG} {a1 : Int32} {M : Mem} {h : Int64}  {P9 : Mem → Prop} (hf : OB (f_X12_layDown a1 M) P9) : Met1 l yX12_layDown cX12_layDown 2 none rm_X12_layDown G [.ref (xa G 132), .int a1] M h (QV1 G h P9) := by
  unfold f_X12_layDown at hf
  refine xm_v1 (by decide) (Nat.le_of_ble_eq_true rfl) ?_
  intro p e s m args below meth c ls Q C hE hret hP hS hl
  have C : CallFix p m c cX12_layDown 2 s args TB RX12 := C
  have hx := C.1
  have hb := C.2.1
  have hl : lv_has ls 2 [(0, .ref (xa G 132)), (1, .int a1)] := hl
  refine xj (fun (M6 : Mem) => ∀ (H : Heap) (locs : List Loc) (ls : Array Slot), va_P G.1 vwCl (wl G M6 h) H → va_S (Aw G) s.heap H locs → lv_has ls 2 [] → W p l e rm_X12_layDown s m args below meth c H locs 0 0 Q (F0 m 49 ls [])) hf ?_ (fun hf => ?_)
  · rintro M6 hf H locs ls hP hS hl
    exact hret _ _ _ _ _ (OB_some hf) hP hS dX12_layDown_49
  · refine (it_W (fun (M5 : Mem) => ∀ (H : Heap) (locs : List Loc) (ls : Array Slot), va_P G.1 vwCl (wl G M5 h) H → va_S (Aw G) s.heap H locs → lv_has ls 2 [(0, .ref (xa G 132)), (1, .int a1)] → W p l e rm_X12_layDown s m args below meth c H locs 0 0 Q (F0 m 0 ls [])) hf ?_) _ _ _ hP hS (lv_sub hl [0, 1] rfl)
    rintro M5 hf H locs ls hP hS hl
    unfold f_X12_layDown_b0 at hf
    refine lv_aload_n hx hb dX12_layDown_0 rfl (lv_at hl 0 rfl) ?_
    refine gfX12_201 C hE hP dX12_layDown_1 ?_
    refine lv_if_le (tgt := 49) hx hb dX12_layDown_4 (by decide) (fun hc => ?_) (fun hc => ?_)
    · have hf := (OB_t hf hc)
      exact (it_e hf) _ _ _ hP hS (lv_sub hl [] rfl)
    · have hf := (OB_f hf hc)
      refine lv_aload_n hx hb dX12_layDown_7 rfl (lv_at hl 0 rfl) ?_
      refine gfX12_52 C hE hP dX12_layDown_8 ?_
      refine lv_aload_n hx hb dX12_layDown_11 rfl (lv_at hl 0 rfl) ?_
      refine gfX12_201 C hE hP dX12_layDown_12 ?_
      refine lv_iconst (v := 1) hx hb dX12_layDown_15 (by decide) ?_
      refine lv_isub hx hb dX12_layDown_16 ?_
      obtain ⟨g7, hf⟩ := OB_g hf
      refine x_iald C hE hP sh147 g7 dX12_layDown_17 ?_
      refine lv_iload_n hx hb dX12_layDown_18 rfl (lv_at hl 1 rfl) ?_
      refine lv_icmp_gt (tgt := 49) hx hb dX12_layDown_19 (by decide) (fun hc => ?_) (fun hc => ?_)
      · have hf := (OB_t hf hc)
        exact (it_e hf) _ _ _ hP hS (lv_sub hl [] rfl)
      · have hf := (OB_f hf hc)
        refine lv_aload_n hx hb dX12_layDown_22 rfl (lv_at hl 0 rfl) ?_
        refine lv_dup hx hb dX12_layDown_23 rfl ?_
        refine gfX12_201 C hE hP dX12_layDown_24 ?_
        refine lv_iconst (v := 1) hx hb dX12_layDown_27 (by decide) ?_
        refine lv_isub hx hb dX12_layDown_28 ?_
        refine pfX12_201 C hE hP hS dX12_layDown_29 (fun H locs hP hS => ?_)
        refine lv_aload_n hx hb dX12_layDown_32 rfl (lv_at hl 0 rfl) ?_
        refine lv_aload_n hx hb dX12_layDown_33 rfl (lv_at hl 0 rfl) ?_
        refine gfX12_52 C hE hP dX12_layDown_34 ?_
        refine lv_aload_n hx hb dX12_layDown_37 rfl (lv_at hl 0 rfl) ?_
        refine gfX12_201 C hE hP dX12_layDown_38 ?_
        obtain ⟨g8, hf⟩ := OB_g hf
        refine x_iald C hE hP sh147 g8 dX12_layDown_41 ?_
        refine lv_iconst (v := 0) hx hb dX12_layDown_42 (by decide) ?_
        refine x_cv1 (rest := []) (x_runV C hE hP hS ykX12_layMark lkX12_204 sh132 rfl (c_X12_layMark (OB_bind hf)) (by decide) rfl hl.1 (Nat.le_of_ble_eq_true rfl) dX12_layDown_43) hS (fun M9 H locs hf hP hS => ?_)
        refine lv_goto (tgt := 0) hx hb dX12_layDown_46 (by decide) ?_
        exact (it_c hf) _ _ _ hP hS (lv_sub hl [0, 1] rfl)
def rm_X12_endNumber : Room := { frames := 1, cells := 0, slots := 0, locals := 22 }
set_option maxRecDepth 100000 in
set_option maxHeartbeats 8000000 in
theorem c_X12_endNumber {l : Launch} {G : GG}  {M : Mem} {h : Int64}  {P9 : Mem → Prop} (hf : OB (f_X12_endNumber M) P9) : Met1 l yX12_endNumber cX12_endNumber 1 none rm_X12_endNumber G [.ref (xa G 132)] M h (QV1 G h P9) := by
  unfold f_X12_endNumber at hf
  refine xm_v1 (by decide) (Nat.le_of_ble_eq_true rfl) ?_
  intro p e s m args below meth c ls Q C hE hret hP hS hl
  have C : CallFix p m c cX12_endNumber 1 s args TB RX12 := C
  have hx := C.1
  have hb := C.2.1
  have hl : lv_has ls 1 [(0, .ref (xa G 132))] := hl
  refine lv_aload_n hx hb dX12_endNumber_0 rfl (lv_at hl 0 rfl) ?_
  refine lv_iconst (v := 3) hx hb dX12_endNumber_1 (by decide) ?_
  refine lv_aload_n hx hb dX12_endNumber_2 rfl (lv_at hl 0 rfl) ?_
  refine gfX12_208 C hE hP dX12_endNumber_3 ?_
  refine lv_imul hx hb dX12_endNumber_6 ?_
  refine lv_aload_n hx hb dX12_endNumber_7 rfl (lv_at hl 0 rfl) ?_
  refine gfX12_211 C hE hP dX12_endNumber_8 ?_
  refine lv_iadd hx hb dX12_endNumber_11 ?_
  refine lv_aload_n hx hb dX12_endNumber_12 rfl (lv_at hl 0 rfl) ?_
  refine gfX12_214 C hE hP dX12_endNumber_13 ?_
  refine x_cv1 (rest := []) (x_runV C hE hP hS ykX12_layMark lkX12_204 sh132 rfl (c_X12_layMark (OB_bind hf)) (by decide) rfl hl.1 (Nat.le_of_ble_eq_true rfl) dX12_endNumber_16) hS (fun M1 H locs hf hP hS => ?_)
  refine lv_aload_n hx hb dX12_endNumber_19 rfl (lv_at hl 0 rfl) ?_
  refine lv_bipush (v := 9) hx hb dX12_endNumber_20 (by decide) ?_
  refine pfX12_217 C hE hP hS dX12_endNumber_22 (fun H locs hP hS => ?_)
  exact hret _ _ _ _ _ (OB_some hf) hP hS dX12_endNumber_25
def rm_X12_goBehind : Room := { frames := 2, cells := 0, slots := 0, locals := 43 }
set_option maxRecDepth 100000 in
set_option maxHeartbeats 8000000 in
theorem c_X12_goBehind {l : Launch} {G : GG} {a1 : Int32} {M : Mem} {h : Int64}  {P9 : (Bool × Mem) → Prop} (hf : OB (f_X12_goBehind a1 M) P9) : Met1 l yX12_goBehind cX12_goBehind 2 (some .boolean) rm_X12_goBehind G [.ref (xa G 132), .int a1] M h (QZ1 G h P9) := by
  unfold f_X12_goBehind at hf
  refine xm_z1 (by decide) (Nat.le_of_ble_eq_true rfl) ?_
  intro p e s m args below meth c ls Q C hE hret hP hS hl
  have C : CallFix p m c cX12_goBehind 2 s args TB RX12 := C
  have hx := C.1
  have hb := C.2.1
  have hl : lv_has ls 2 [(0, .ref (xa G 132)), (1, .int a1)] := hl
  refine lv_iload_n hx hb dX12_goBehind_0 rfl (lv_at hl 1 rfl) ?_
  refine lv_bipush (v := 38) hx hb dX12_goBehind_1 (by decide) ?_
  have hj14 : ∀ (H : Heap) (locs : List Loc) (ls : Array Slot), OB (f_X12_goBehind_j14_0 a1 M) P9 → va_P G.1 vwCl (wl G M h) H → va_S (Aw G) s.heap H locs → lv_has ls 2 [(0, .ref (xa G 132)), (1, .int a1)] → W p l e rm_X12_goBehind s m args below meth c H locs 0 0 Q (F0 m 14 ls []) := by
    intro  H locs ls hf hP hS hl
    refine lv_aload_n hx hb dX12_goBehind_14 rfl (lv_at hl 0 rfl) ?_
    refine gfX12_217 C hE hP dX12_goBehind_15 ?_
    refine lv_bipush (v := 8) hx hb dX12_goBehind_18 (by decide) ?_
    refine xj (fun (M19 : Mem) => ∀ (H : Heap) (locs : List Loc) (ls : Array Slot), va_P G.1 vwCl (wl G M19 h) H → va_S (Aw G) s.heap H locs → lv_has ls 2 [(0, .ref (xa G 132)), (1, .int a1)] → W p l e rm_X12_goBehind s m args below meth c H locs 0 0 Q (F0 m 27 ls [])) hf ?_ (fun hf => ?_)
    · rintro M19 hf H locs ls hP hS hl
      refine lv_aload_n hx hb dX12_goBehind_27 rfl (lv_at hl 0 rfl) ?_
      refine lv_iload_n hx hb dX12_goBehind_28 rfl (lv_at hl 1 rfl) ?_
      refine lv_bipush (v := 38) hx hb dX12_goBehind_29 (by decide) ?_
      refine xj (fun (x21 : Int32) => ∀ (H : Heap) (locs : List Loc) (ls : Array Slot), va_P G.1 vwCl (wl G M19 h) H → va_S (Aw G) s.heap H locs → lv_has ls 2 [(0, .ref (xa G 132)), (1, .int a1)] → W p l e rm_X12_goBehind s m args below meth c H locs 0 0 Q (F0 m 41 ls [.int x21, .ref (xa G 132)])) hf ?_ (fun hf => ?_)
      · rintro x21 hf H locs ls hP hS hl
        refine x_cv1 (rest := []) (x_runV C hE hP hS ykX12_layDown lkX12_223 sh132 rfl (c_X12_layDown (OB_bind hf)) (by decide) rfl hl.1 (Nat.le_of_ble_eq_true rfl) dX12_goBehind_41) hS (fun M22 H locs hf hP hS => ?_)
        refine lv_aload_n hx hb dX12_goBehind_44 rfl (lv_at hl 0 rfl) ?_
        refine gfX12_52 C hE hP dX12_goBehind_45 ?_
        refine lv_aload_n hx hb dX12_goBehind_48 rfl (lv_at hl 0 rfl) ?_
        refine gfX12_201 C hE hP dX12_goBehind_49 ?_
        refine lv_iload_n hx hb dX12_goBehind_52 rfl (lv_at hl 1 rfl) ?_
        refine lv_bipush (v := 38) hx hb dX12_goBehind_53 (by decide) ?_
        refine xj (fun (x23 : Int32) => ∀ (H : Heap) (locs : List Loc) (ls : Array Slot), va_P G.1 vwCl (wl G M22 h) H → va_S (Aw G) s.heap H locs → lv_has ls 2 [(0, .ref (xa G 132))] → W p l e rm_X12_goBehind s m args below meth c H locs 0 0 Q (F0 m 65 ls [.int x23, .int (M22 132 24), .ref (xa G 147)])) hf ?_ (fun hf => ?_)
        · rintro x23 hf H locs ls hP hS hl
          obtain ⟨g24, hf⟩ := OB_g hf
          refine x_iast C hE hP hS sh147 g24 dX12_goBehind_65 (fun H locs hP hS => ?_)
          refine lv_aload_n hx hb dX12_goBehind_66 rfl (lv_at hl 0 rfl) ?_
          refine lv_dup hx hb dX12_goBehind_67 rfl ?_
          refine gfX12_201 C hE hP dX12_goBehind_68 ?_
          refine lv_iconst (v := 1) hx hb dX12_goBehind_71 (by decide) ?_
          refine lv_iadd hx hb dX12_goBehind_72 ?_
          refine pfX12_201 C hE hP hS dX12_goBehind_73 (fun H locs hP hS => ?_)
          refine lv_aload_n hx hb dX12_goBehind_76 rfl (lv_at hl 0 rfl) ?_
          refine lv_iconst (v := 5) hx hb dX12_goBehind_77 (by decide) ?_
          refine pfX12_217 C hE hP hS dX12_goBehind_78 (fun H locs hP hS => ?_)
          refine lv_iconst (v := 1) hx hb dX12_goBehind_81 (by decide) ?_
          refine W.eq (g2 := F0 m 82 ls [.int (bI true)]) rfl ?_
          exact hret _ _ _ _ _ _ (OB_some hf) hP hS dX12_goBehind_82
        · skip
          refine lv_icmp_ne (tgt := 63) hx hb dX12_goBehind_55 (by decide) (fun hc => ?_) (fun hc => ?_)
          · have hf := (OB_f hf hc)
            refine lv_bipush (v := 11) hx hb dX12_goBehind_63 (by decide) ?_
            exact (OB_some hf) _ _ _ hP hS (lv_sub hl [0] rfl)
          · have hf := (OB_t hf hc)
            refine lv_bipush (v := 10) hx hb dX12_goBehind_58 (by decide) ?_
            refine lv_goto (tgt := 65) hx hb dX12_goBehind_60 (by decide) ?_
            exact (OB_some hf) _ _ _ hP hS (lv_sub hl [0] rfl)
      · skip
        refine lv_icmp_ne (tgt := 39) hx hb dX12_goBehind_31 (by decide) (fun hc => ?_) (fun hc => ?_)
        · have hf := (OB_f hf hc)
          refine lv_bipush (v := 11) hx hb dX12_goBehind_39 (by decide) ?_
          exact (OB_some hf) _ _ _ hP hS (lv_sub hl [0, 1] rfl)
        · have hf := (OB_t hf hc)
          refine lv_bipush (v := 10) hx hb dX12_goBehind_34 (by decide) ?_
          refine lv_goto (tgt := 41) hx hb dX12_goBehind_36 (by decide) ?_
          exact (OB_some hf) _ _ _ hP hS (lv_sub hl [0, 1] rfl)
    · skip
      refine lv_icmp_ne (tgt := 27) hx hb dX12_goBehind_20 (by decide) (fun hc => ?_) (fun hc => ?_)
      · have hf := (OB_f hf hc)
        exact (OB_some hf) _ _ _ hP hS (lv_sub hl [0, 1] rfl)
      · have hf := (OB_t hf hc)
        refine lv_aload_n hx hb dX12_goBehind_23 rfl (lv_at hl 0 rfl) ?_
        refine x_cv1 (rest := []) (x_runV C hE hP hS ykX12_endNumber lkX12_220 sh132 rfl (c_X12_endNumber (OB_bind hf)) (by decide) rfl hl.1 (Nat.le_of_ble_eq_true rfl) dX12_goBehind_24) hS (fun M20 H locs hf hP hS => ?_)
        exact (OB_some hf) _ _ _ hP hS (lv_sub hl [0, 1] rfl)
  refine lv_icmp_eq (tgt := 14) hx hb dX12_goBehind_3 (by decide) (fun hc => ?_) (fun hc => ?_)
  · have hf := (OB_t hf hc)
    exact hj14  _ _ _ hf hP hS (lv_sub hl [0, 1] rfl)
  · have hf := (OB_f hf hc)
    refine lv_iload_n hx hb dX12_goBehind_6 rfl (lv_at hl 1 rfl) ?_
    refine lv_bipush (v := 124) hx hb dX12_goBehind_7 (by decide) ?_
    refine lv_icmp_eq (tgt := 14) hx hb dX12_goBehind_9 (by decide) (fun hc => ?_) (fun hc => ?_)
    · have hf := (OB_t hf hc)
      exact hj14  _ _ _ hf hP hS (lv_sub hl [0, 1] rfl)
    · have hf := (OB_f hf hc)
      refine lv_iconst (v := 0) hx hb dX12_goBehind_12 (by decide) ?_
      refine W.eq (g2 := F0 m 13 ls [.int (bI false)]) rfl ?_
      exact hret _ _ _ _ _ _ (OB_some hf) hP hS dX12_goBehind_13
def rm_X12_go : Room := { frames := 3, cells := 0, slots := 0, locals := 64 }
set_option maxRecDepth 100000 in
set_option maxHeartbeats 8000000 in
theorem c_X12_go {l : Launch} {G : GG} {a1 : Int32} {M : Mem} {h : Int64}  {P9 : (Bool × Mem) → Prop} (hf : OB (f_X12_go a1 M) P9) : Met1 l yX12_go cX12_go 3 (some .boolean) rm_X12_go G [.ref (xa G 132), .int a1] M h (QZ1 G h P9) := by
  unfold f_X12_go at hf
  refine xm_z1 (by decide) (Nat.le_of_ble_eq_true rfl) ?_
  intro p e s m args below meth c ls Q C hE hret hP hS hl
  have C : CallFix p m c cX12_go 3 s args TB RX12 := C
  have hx := C.1
  have hb := C.2.1
  have hl : lv_has ls 3 [(0, .ref (xa G 132)), (1, .int a1)] := hl
  refine lv_iload_n hx hb dX12_go_0 rfl (lv_at hl 1 rfl) ?_
  refine lv_i2l hx hb dX12_go_1 rfl ?_
  refine lv_ldc2 hx hb C.2.2.2.1 (C.2.2.2.2 _ ckX12_227) dX12_go_2 ?_
  refine lv_ldc2 hx hb C.2.2.2.1 (C.2.2.2.2 _ ckX12_229) dX12_go_5 ?_
  refine x_cz0 (rest := []) (x_runS C hE hP hS ykX12_in lkX12_92 (c_X12_in (OB_bind hf)) (by decide) rfl hl.1 (Nat.le_of_ble_eq_true rfl) dX12_go_8) hS (fun r1 H locs hf hP hS => ?_)
  refine lv_istore_n (lv' := [(2, .int (bI r1)), (0, .ref (xa G 132)), (1, .int a1)]) hx hb dX12_go_11 rfl hl (by decide) rfl (fun ls hl => ?_)
  refine lv_aload_n hx hb dX12_go_12 rfl (lv_at hl 1 rfl) ?_
  refine gfX12_217 C hE hP dX12_go_13 ?_
  by_cases hs16_0 : (M 132 14) = 0
  · have hf := OB_t hf hs16_0
    refine lv_tableIn (off := 52) (tgt := 68) hx hb dX12_go_16 (by rw [hs16_0]; decide) (by rw [hs16_0]; decide) (by rw [hs16_0]; rfl) (by decide) ?_
    refine lv_aload_n hx hb dX12_go_68 rfl (lv_at hl 1 rfl) ?_
    refine lv_iload_n hx hb dX12_go_69 rfl (lv_at hl 2 rfl) ?_
    refine x_ci0 (rest := [.ref (xa G 132)]) (x_runS C hE hP hS ykX12_wayOf lkX12_231 (c_X12_wayOf (OB_bind hf)) (by decide) rfl hl.1 (Nat.le_of_ble_eq_true rfl) dX12_go_70) hS (fun r2 H locs hf hP hS => ?_)
    refine pfX12_234 C hE hP hS dX12_go_73 (fun H locs hP hS => ?_)
    refine lv_aload_n hx hb dX12_go_76 rfl (lv_at hl 1 rfl) ?_
    refine lv_iconst (v := 1) hx hb dX12_go_77 (by decide) ?_
    refine pfX12_217 C hE hP hS dX12_go_78 (fun H locs hP hS => ?_)
    refine lv_aload_n hx hb dX12_go_81 rfl (lv_at hl 1 rfl) ?_
    refine gfX12_234 C hE hP dX12_go_82 ?_
    refine lv_iconst (v := -1) hx hb dX12_go_85 (by decide) ?_
    refine xj (fun (x3 : Bool) => ∀ (H : Heap) (locs : List Loc) (ls : Array Slot), va_P G.1 vwCl (wl G (up (up M 132 15 r2) 132 14 1) h) H → va_S (Aw G) s.heap H locs → lv_has ls 3 [] → W p l e rm_X12_go s m args below meth c H locs 0 0 Q (F0 m 94 ls [.int (bI x3)])) hf ?_ (fun hf => ?_)
    · rintro x3 hf H locs ls hP hS hl
      exact hret _ _ _ _ _ _ (OB_some hf) hP hS dX12_go_94
    · skip
      refine lv_icmp_eq (tgt := 93) hx hb dX12_go_86 (by decide) (fun hc => ?_) (fun hc => ?_)
      · have hf := (OB_t hf hc)
        refine lv_iconst (v := 0) hx hb dX12_go_93 (by decide) ?_
        refine W.eq (g2 := F0 m 94 ls [.int (bI false)]) rfl ?_
        exact (OB_some hf) _ _ _ hP hS (lv_sub hl [] rfl)
      · have hf := (OB_f hf hc)
        refine lv_iconst (v := 1) hx hb dX12_go_89 (by decide) ?_
        refine lv_goto (tgt := 94) hx hb dX12_go_90 (by decide) ?_
        refine W.eq (g2 := F0 m 94 ls [.int (bI true)]) rfl ?_
        exact (OB_some hf) _ _ _ hP hS (lv_sub hl [] rfl)
  · have hf := OB_f hf hs16_0
    by_cases hs16_1 : (M 132 14) = 1
    · have hf := OB_t hf hs16_1
      refine lv_tableIn (off := 79) (tgt := 95) hx hb dX12_go_16 (by rw [hs16_1]; decide) (by rw [hs16_1]; decide) (by rw [hs16_1]; rfl) (by decide) ?_
      refine lv_aload_n hx hb dX12_go_95 rfl (lv_at hl 1 rfl) ?_
      refine lv_iconst (v := 2) hx hb dX12_go_96 (by decide) ?_
      refine pfX12_217 C hE hP hS dX12_go_97 (fun H locs hP hS => ?_)
      refine lv_iload_n hx hb dX12_go_100 rfl (lv_at hl 2 rfl) ?_
      refine lv_bipush (v := 58) hx hb dX12_go_101 (by decide) ?_
      refine xj (fun (x4 : Bool) => ∀ (H : Heap) (locs : List Loc) (ls : Array Slot), va_P G.1 vwCl (wl G (up M 132 14 2) h) H → va_S (Aw G) s.heap H locs → lv_has ls 3 [] → W p l e rm_X12_go s m args below meth c H locs 0 0 Q (F0 m 111 ls [.int (bI x4)])) hf ?_ (fun hf => ?_)
      · rintro x4 hf H locs ls hP hS hl
        exact hret _ _ _ _ _ _ (OB_some hf) hP hS dX12_go_111
      · skip
        refine lv_icmp_ne (tgt := 110) hx hb dX12_go_103 (by decide) (fun hc => ?_) (fun hc => ?_)
        · have hf := (OB_f hf hc)
          refine lv_iconst (v := 0) hx hb dX12_go_110 (by decide) ?_
          refine W.eq (g2 := F0 m 111 ls [.int (bI false)]) rfl ?_
          exact (OB_some hf) _ _ _ hP hS (lv_sub hl [] rfl)
        · have hf := (OB_t hf hc)
          refine lv_iconst (v := 1) hx hb dX12_go_106 (by decide) ?_
          refine lv_goto (tgt := 111) hx hb dX12_go_107 (by decide) ?_
          refine W.eq (g2 := F0 m 111 ls [.int (bI true)]) rfl ?_
          exact (OB_some hf) _ _ _ hP hS (lv_sub hl [] rfl)
    · have hf := OB_f hf hs16_1
      by_cases hs16_2 : (M 132 14) = 2
      · have hf := OB_t hf hs16_2
        refine lv_tableIn (off := 96) (tgt := 112) hx hb dX12_go_16 (by rw [hs16_2]; decide) (by rw [hs16_2]; decide) (by rw [hs16_2]; rfl) (by decide) ?_
        refine lv_aload_n hx hb dX12_go_112 rfl (lv_at hl 1 rfl) ?_
        refine lv_iload_n hx hb dX12_go_113 rfl (lv_at hl 2 rfl) ?_
        refine lv_bipush (v := 48) hx hb dX12_go_114 (by decide) ?_
        refine lv_isub hx hb dX12_go_116 ?_
        refine pfX12_237 C hE hP hS dX12_go_117 (fun H locs hP hS => ?_)
        refine lv_aload_n hx hb dX12_go_120 rfl (lv_at hl 1 rfl) ?_
        refine lv_iconst (v := 3) hx hb dX12_go_121 (by decide) ?_
        refine pfX12_217 C hE hP hS dX12_go_122 (fun H locs hP hS => ?_)
        refine lv_iload_n hx hb dX12_go_125 rfl (lv_at hl 0 rfl) ?_
        exact hret _ _ _ _ _ _ (OB_some hf) hP hS dX12_go_126
      · have hf := OB_f hf hs16_2
        by_cases hs16_3 : (M 132 14) = 3
        · have hf := OB_t hf hs16_3
          refine lv_tableIn (off := 111) (tgt := 127) hx hb dX12_go_16 (by rw [hs16_3]; decide) (by rw [hs16_3]; decide) (by rw [hs16_3]; rfl) (by decide) ?_
          refine lv_aload_n hx hb dX12_go_127 rfl (lv_at hl 1 rfl) ?_
          refine lv_iload_n hx hb dX12_go_128 rfl (lv_at hl 0 rfl) ?_
          refine xj (fun (x5 : Int32) => ∀ (H : Heap) (locs : List Loc) (ls : Array Slot), va_P G.1 vwCl (wl G M h) H → va_S (Aw G) s.heap H locs → lv_has ls 3 [(0, .ref (xa G 132)), (1, .int a1), (2, .int (bI r1))] → W p l e rm_X12_go s m args below meth c H locs 0 0 Q (F0 m 151 ls [.int x5, .ref (xa G 132)])) hf ?_ (fun hf => ?_)
          · rintro x5 hf H locs ls hP hS hl
            refine pfX12_237 C hE hP hS dX12_go_151 (fun H locs hP hS => ?_)
            refine lv_aload_n hx hb dX12_go_154 rfl (lv_at hl 0 rfl) ?_
            refine lv_iload_n hx hb dX12_go_155 rfl (lv_at hl 2 rfl) ?_
            refine xj (fun (x6 : Int32) => ∀ (H : Heap) (locs : List Loc) (ls : Array Slot), va_P G.1 vwCl (wl G (up M 132 16 x5) h) H → va_S (Aw G) s.heap H locs → lv_has ls 3 [(1, .int a1), (2, .int (bI r1))] → W p l e rm_X12_go s m args below meth c H locs 0 0 Q (F0 m 164 ls [.int x6, .ref (xa G 132)])) hf ?_ (fun hf => ?_)
            · rintro x6 hf H locs ls hP hS hl
              refine pfX12_217 C hE hP hS dX12_go_164 (fun H locs hP hS => ?_)
              refine lv_iload_n hx hb dX12_go_167 rfl (lv_at hl 1 rfl) ?_
              refine xj (fun (x7 : Bool) => ∀ (H : Heap) (locs : List Loc) (ls : Array Slot), va_P G.1 vwCl (wl G (up (up M 132 16 x5) 132 14 x6) h) H → va_S (Aw G) s.heap H locs → lv_has ls 3 [] → W p l e rm_X12_go s m args below meth c H locs 0 0 Q (F0 m 182 ls [.int (bI x7)])) hf ?_ (fun hf => ?_)
              · rintro x7 hf H locs ls hP hS hl
                exact hret _ _ _ _ _ _ (OB_some hf) hP hS dX12_go_182
              · skip
                refine lv_if_ne (tgt := 177) hx hb dX12_go_168 (by decide) (fun hc => ?_) (fun hc => ?_)
                · have hf := (OB_t hf (bI_t hc))
                  refine lv_iconst (v := 1) hx hb dX12_go_177 (by decide) ?_
                  refine lv_goto (tgt := 182) hx hb dX12_go_178 (by decide) ?_
                  refine W.eq (g2 := F0 m 182 ls [.int (bI true)]) rfl ?_
                  exact (OB_some hf) _ _ _ hP hS (lv_sub hl [] rfl)
                · have hf := (OB_f hf (bI_f hc))
                  refine lv_iload_n hx hb dX12_go_171 rfl (lv_at hl 0 rfl) ?_
                  refine lv_bipush (v := 63) hx hb dX12_go_172 (by decide) ?_
                  refine lv_icmp_ne (tgt := 181) hx hb dX12_go_174 (by decide) (fun hc => ?_) (fun hc => ?_)
                  · have hf := (OB_f hf hc)
                    refine lv_iconst (v := 0) hx hb dX12_go_181 (by decide) ?_
                    refine W.eq (g2 := F0 m 182 ls [.int (bI false)]) rfl ?_
                    exact (OB_some hf) _ _ _ hP hS (lv_sub hl [] rfl)
                  · have hf := (OB_t hf hc)
                    refine lv_iconst (v := 1) hx hb dX12_go_177 (by decide) ?_
                    refine lv_goto (tgt := 182) hx hb dX12_go_178 (by decide) ?_
                    refine W.eq (g2 := F0 m 182 ls [.int (bI true)]) rfl ?_
                    exact (OB_some hf) _ _ _ hP hS (lv_sub hl [] rfl)
            · skip
              refine lv_if_eq (tgt := 163) hx hb dX12_go_156 (by decide) (fun hc => ?_) (fun hc => ?_)
              · have hf := (OB_f hf (bI_f hc))
                refine lv_iconst (v := 5) hx hb dX12_go_163 (by decide) ?_
                exact (OB_some hf) _ _ _ hP hS (lv_sub hl [1, 2] rfl)
              · have hf := (OB_t hf (bI_t hc))
                refine lv_iconst (v := 4) hx hb dX12_go_159 (by decide) ?_
                refine lv_goto (tgt := 164) hx hb dX12_go_160 (by decide) ?_
                exact (OB_some hf) _ _ _ hP hS (lv_sub hl [1, 2] rfl)
          · skip
            refine lv_if_eq (tgt := 147) hx hb dX12_go_129 (by decide) (fun hc => ?_) (fun hc => ?_)
            · have hf := (OB_f hf (bI_f hc))
              refine lv_aload_n hx hb dX12_go_147 rfl (lv_at hl 1 rfl) ?_
              refine gfX12_237 C hE hP dX12_go_148 ?_
              exact (OB_some hf) _ _ _ hP hS (lv_sub hl [1, 2, 0] rfl)
            · have hf := (OB_t hf (bI_t hc))
              refine lv_bipush (v := 10) hx hb dX12_go_132 (by decide) ?_
              refine lv_aload_n hx hb dX12_go_134 rfl (lv_at hl 1 rfl) ?_
              refine gfX12_237 C hE hP dX12_go_135 ?_
              refine lv_imul hx hb dX12_go_138 ?_
              refine lv_iload_n hx hb dX12_go_139 rfl (lv_at hl 2 rfl) ?_
              refine lv_iadd hx hb dX12_go_140 ?_
              refine lv_bipush (v := 48) hx hb dX12_go_141 (by decide) ?_
              refine lv_isub hx hb dX12_go_143 ?_
              refine lv_goto (tgt := 151) hx hb dX12_go_144 (by decide) ?_
              exact (OB_some hf) _ _ _ hP hS (lv_sub hl [1, 2, 0] rfl)
        · have hf := OB_f hf hs16_3
          by_cases hs16_4 : (M 132 14) = 4
          · have hf := OB_t hf hs16_4
            refine lv_tableIn (off := 167) (tgt := 183) hx hb dX12_go_16 (by rw [hs16_4]; decide) (by rw [hs16_4]; decide) (by rw [hs16_4]; rfl) (by decide) ?_
            refine lv_aload_n hx hb dX12_go_183 rfl (lv_at hl 1 rfl) ?_
            refine lv_iconst (v := 5) hx hb dX12_go_184 (by decide) ?_
            refine pfX12_217 C hE hP hS dX12_go_185 (fun H locs hP hS => ?_)
            refine lv_iload_n hx hb dX12_go_188 rfl (lv_at hl 2 rfl) ?_
            refine lv_bipush (v := 63) hx hb dX12_go_189 (by decide) ?_
            refine xj (fun (x8 : Bool) => ∀ (H : Heap) (locs : List Loc) (ls : Array Slot), va_P G.1 vwCl (wl G (up M 132 14 5) h) H → va_S (Aw G) s.heap H locs → lv_has ls 3 [] → W p l e rm_X12_go s m args below meth c H locs 0 0 Q (F0 m 199 ls [.int (bI x8)])) hf ?_ (fun hf => ?_)
            · rintro x8 hf H locs ls hP hS hl
              exact hret _ _ _ _ _ _ (OB_some hf) hP hS dX12_go_199
            · skip
              refine lv_icmp_ne (tgt := 198) hx hb dX12_go_191 (by decide) (fun hc => ?_) (fun hc => ?_)
              · have hf := (OB_f hf hc)
                refine lv_iconst (v := 0) hx hb dX12_go_198 (by decide) ?_
                refine W.eq (g2 := F0 m 199 ls [.int (bI false)]) rfl ?_
                exact (OB_some hf) _ _ _ hP hS (lv_sub hl [] rfl)
              · have hf := (OB_t hf hc)
                refine lv_iconst (v := 1) hx hb dX12_go_194 (by decide) ?_
                refine lv_goto (tgt := 199) hx hb dX12_go_195 (by decide) ?_
                refine W.eq (g2 := F0 m 199 ls [.int (bI true)]) rfl ?_
                exact (OB_some hf) _ _ _ hP hS (lv_sub hl [] rfl)
          · have hf := OB_f hf hs16_4
            by_cases hs16_5 : (M 132 14) = 5
            · have hf := OB_t hf hs16_5
              refine lv_tableIn (off := 184) (tgt := 200) hx hb dX12_go_16 (by rw [hs16_5]; decide) (by rw [hs16_5]; decide) (by rw [hs16_5]; rfl) (by decide) ?_
              refine lv_iload_n hx hb dX12_go_200 rfl (lv_at hl 2 rfl) ?_
              refine lv_bipush (v := 33) hx hb dX12_go_201 (by decide) ?_
              refine lv_icmp_ne (tgt := 229) hx hb dX12_go_203 (by decide) (fun hc => ?_) (fun hc => ?_)
              · have hf := (OB_f hf hc)
                refine lv_aload_n hx hb dX12_go_229 rfl (lv_at hl 1 rfl) ?_
                refine lv_iload_n hx hb dX12_go_230 rfl (lv_at hl 2 rfl) ?_
                refine x_ci0 (rest := [.ref (xa G 132)]) (x_runS C hE hP hS ykX12_letterOf lkX12_240 (c_X12_letterOf (OB_bind hf)) (by decide) rfl hl.1 (Nat.le_of_ble_eq_true rfl) dX12_go_231) hS (fun r9 H locs hf hP hS => ?_)
                refine pfX12_208 C hE hP hS dX12_go_234 (fun H locs hP hS => ?_)
                refine lv_aload_n hx hb dX12_go_237 rfl (lv_at hl 1 rfl) ?_
                refine lv_bipush (v := 6) hx hb dX12_go_238 (by decide) ?_
                refine pfX12_217 C hE hP hS dX12_go_240 (fun H locs hP hS => ?_)
                refine lv_aload_n hx hb dX12_go_243 rfl (lv_at hl 1 rfl) ?_
                refine gfX12_208 C hE hP dX12_go_244 ?_
                refine lv_iconst (v := -1) hx hb dX12_go_247 (by decide) ?_
                refine xj (fun (x10 : Bool) => ∀ (H : Heap) (locs : List Loc) (ls : Array Slot), va_P G.1 vwCl (wl G (up (up M 132 17 r9) 132 14 6) h) H → va_S (Aw G) s.heap H locs → lv_has ls 3 [] → W p l e rm_X12_go s m args below meth c H locs 0 0 Q (F0 m 256 ls [.int (bI x10)])) hf ?_ (fun hf => ?_)
                · rintro x10 hf H locs ls hP hS hl
                  exact hret _ _ _ _ _ _ (OB_some hf) hP hS dX12_go_256
                · skip
                  refine lv_icmp_eq (tgt := 255) hx hb dX12_go_248 (by decide) (fun hc => ?_) (fun hc => ?_)
                  · have hf := (OB_t hf hc)
                    refine lv_iconst (v := 0) hx hb dX12_go_255 (by decide) ?_
                    refine W.eq (g2 := F0 m 256 ls [.int (bI false)]) rfl ?_
                    exact (OB_some hf) _ _ _ hP hS (lv_sub hl [] rfl)
                  · have hf := (OB_f hf hc)
                    refine lv_iconst (v := 1) hx hb dX12_go_251 (by decide) ?_
                    refine lv_goto (tgt := 256) hx hb dX12_go_252 (by decide) ?_
                    refine W.eq (g2 := F0 m 256 ls [.int (bI true)]) rfl ?_
                    exact (OB_some hf) _ _ _ hP hS (lv_sub hl [] rfl)
              · have hf := (OB_t hf hc)
                refine lv_aload_n hx hb dX12_go_206 rfl (lv_at hl 1 rfl) ?_
                refine gfX12_52 C hE hP dX12_go_207 ?_
                refine lv_aload_n hx hb dX12_go_210 rfl (lv_at hl 1 rfl) ?_
                refine gfX12_201 C hE hP dX12_go_211 ?_
                refine lv_bipush (v := 9) hx hb dX12_go_214 (by decide) ?_
                obtain ⟨g11, hf⟩ := OB_g hf
                refine x_iast C hE hP hS sh147 g11 dX12_go_216 (fun H locs hP hS => ?_)
                refine lv_aload_n hx hb dX12_go_217 rfl (lv_at hl 1 rfl) ?_
                refine lv_dup hx hb dX12_go_218 rfl ?_
                refine gfX12_201 C hE hP dX12_go_219 ?_
                refine lv_iconst (v := 1) hx hb dX12_go_222 (by decide) ?_
                refine lv_iadd hx hb dX12_go_223 ?_
                refine pfX12_201 C hE hP hS dX12_go_224 (fun H locs hP hS => ?_)
                refine lv_iconst (v := 1) hx hb dX12_go_227 (by decide) ?_
                refine W.eq (g2 := F0 m 228 ls [.int (bI true)]) rfl ?_
                exact hret _ _ _ _ _ _ (OB_some hf) hP hS dX12_go_228
            · have hf := OB_f hf hs16_5
              by_cases hs16_6 : (M 132 14) = 6
              · have hf := OB_t hf hs16_6
                refine lv_tableIn (off := 241) (tgt := 257) hx hb dX12_go_16 (by rw [hs16_6]; decide) (by rw [hs16_6]; decide) (by rw [hs16_6]; rfl) (by decide) ?_
                refine lv_aload_n hx hb dX12_go_257 rfl (lv_at hl 1 rfl) ?_
                refine lv_iload_n hx hb dX12_go_258 rfl (lv_at hl 2 rfl) ?_
                refine lv_bipush (v := 60) hx hb dX12_go_259 (by decide) ?_
                refine xj (fun (x12 : Int32) => ∀ (H : Heap) (locs : List Loc) (ls : Array Slot), va_P G.1 vwCl (wl G M h) H → va_S (Aw G) s.heap H locs → lv_has ls 3 [(0, .ref (xa G 132)), (1, .int a1)] → W p l e rm_X12_go s m args below meth c H locs 0 0 Q (F0 m 279 ls [.int x12, .ref (xa G 132)])) hf ?_ (fun hf => ?_)
                · rintro x12 hf H locs ls hP hS hl
                  refine pfX12_211 C hE hP hS dX12_go_279 (fun H locs hP hS => ?_)
                  refine lv_aload_n hx hb dX12_go_282 rfl (lv_at hl 0 rfl) ?_
                  refine lv_bipush (v := 7) hx hb dX12_go_283 (by decide) ?_
                  refine pfX12_217 C hE hP hS dX12_go_285 (fun H locs hP hS => ?_)
                  refine lv_iload_n hx hb dX12_go_288 rfl (lv_at hl 1 rfl) ?_
                  refine lv_bipush (v := 60) hx hb dX12_go_289 (by decide) ?_
                  refine xj (fun (x13 : Bool) => ∀ (H : Heap) (locs : List Loc) (ls : Array Slot), va_P G.1 vwCl (wl G (up (up M 132 18 x12) 132 14 7) h) H → va_S (Aw G) s.heap H locs → lv_has ls 3 [] → W p l e rm_X12_go s m args below meth c H locs 0 0 Q (F0 m 311 ls [.int (bI x13)])) hf ?_ (fun hf => ?_)
                  · rintro x13 hf H locs ls hP hS hl
                    exact hret _ _ _ _ _ _ (OB_some hf) hP hS dX12_go_311
                  · skip
                    refine lv_icmp_eq (tgt := 306) hx hb dX12_go_291 (by decide) (fun hc => ?_) (fun hc => ?_)
                    · have hf := (OB_t hf hc)
                      refine lv_iconst (v := 1) hx hb dX12_go_306 (by decide) ?_
                      refine lv_goto (tgt := 311) hx hb dX12_go_307 (by decide) ?_
                      refine W.eq (g2 := F0 m 311 ls [.int (bI true)]) rfl ?_
                      exact (OB_some hf) _ _ _ hP hS (lv_sub hl [] rfl)
                    · have hf := (OB_f hf hc)
                      refine lv_iload_n hx hb dX12_go_294 rfl (lv_at hl 1 rfl) ?_
                      refine lv_bipush (v := 61) hx hb dX12_go_295 (by decide) ?_
                      refine lv_icmp_eq (tgt := 306) hx hb dX12_go_297 (by decide) (fun hc => ?_) (fun hc => ?_)
                      · have hf := (OB_t hf hc)
                        refine lv_iconst (v := 1) hx hb dX12_go_306 (by decide) ?_
                        refine lv_goto (tgt := 311) hx hb dX12_go_307 (by decide) ?_
                        refine W.eq (g2 := F0 m 311 ls [.int (bI true)]) rfl ?_
                        exact (OB_some hf) _ _ _ hP hS (lv_sub hl [] rfl)
                      · have hf := (OB_f hf hc)
                        refine lv_iload_n hx hb dX12_go_300 rfl (lv_at hl 1 rfl) ?_
                        refine lv_bipush (v := 62) hx hb dX12_go_301 (by decide) ?_
                        refine lv_icmp_ne (tgt := 310) hx hb dX12_go_303 (by decide) (fun hc => ?_) (fun hc => ?_)
                        · have hf := (OB_f hf hc)
                          refine lv_iconst (v := 0) hx hb dX12_go_310 (by decide) ?_
                          refine W.eq (g2 := F0 m 311 ls [.int (bI false)]) rfl ?_
                          exact (OB_some hf) _ _ _ hP hS (lv_sub hl [] rfl)
                        · have hf := (OB_t hf hc)
                          refine lv_iconst (v := 1) hx hb dX12_go_306 (by decide) ?_
                          refine lv_goto (tgt := 311) hx hb dX12_go_307 (by decide) ?_
                          refine W.eq (g2 := F0 m 311 ls [.int (bI true)]) rfl ?_
                          exact (OB_some hf) _ _ _ hP hS (lv_sub hl [] rfl)
                · skip
                  refine lv_icmp_ne (tgt := 268) hx hb dX12_go_261 (by decide) (fun hc => ?_) (fun hc => ?_)
                  · have hf := (OB_f hf hc)
                    refine lv_iload_n hx hb dX12_go_268 rfl (lv_at hl 2 rfl) ?_
                    refine lv_bipush (v := 61) hx hb dX12_go_269 (by decide) ?_
                    refine lv_icmp_ne (tgt := 278) hx hb dX12_go_271 (by decide) (fun hc => ?_) (fun hc => ?_)
                    · have hf := (OB_f hf hc)
                      refine lv_iconst (v := 2) hx hb dX12_go_278 (by decide) ?_
                      exact (OB_some hf) _ _ _ hP hS (lv_sub hl [1, 2] rfl)
                    · have hf := (OB_t hf hc)
                      refine lv_iconst (v := 1) hx hb dX12_go_274 (by decide) ?_
                      refine lv_goto (tgt := 279) hx hb dX12_go_275 (by decide) ?_
                      exact (OB_some hf) _ _ _ hP hS (lv_sub hl [1, 2] rfl)
                  · have hf := (OB_t hf hc)
                    refine lv_iconst (v := 0) hx hb dX12_go_264 (by decide) ?_
                    refine lv_goto (tgt := 279) hx hb dX12_go_265 (by decide) ?_
                    exact (OB_some hf) _ _ _ hP hS (lv_sub hl [1, 2] rfl)
              · have hf := OB_f hf hs16_6
                by_cases hs16_7 : (M 132 14) = 7
                · have hf := OB_t hf hs16_7
                  refine lv_tableIn (off := 296) (tgt := 312) hx hb dX12_go_16 (by rw [hs16_7]; decide) (by rw [hs16_7]; decide) (by rw [hs16_7]; rfl) (by decide) ?_
                  refine lv_aload_n hx hb dX12_go_312 rfl (lv_at hl 1 rfl) ?_
                  refine lv_iload_n hx hb dX12_go_313 rfl (lv_at hl 2 rfl) ?_
                  refine lv_bipush (v := 48) hx hb dX12_go_314 (by decide) ?_
                  refine lv_isub hx hb dX12_go_316 ?_
                  refine pfX12_214 C hE hP hS dX12_go_317 (fun H locs hP hS => ?_)
                  refine lv_aload_n hx hb dX12_go_320 rfl (lv_at hl 1 rfl) ?_
                  refine lv_bipush (v := 8) hx hb dX12_go_321 (by decide) ?_
                  refine pfX12_217 C hE hP hS dX12_go_323 (fun H locs hP hS => ?_)
                  refine lv_iload_n hx hb dX12_go_326 rfl (lv_at hl 0 rfl) ?_
                  exact hret _ _ _ _ _ _ (OB_some hf) hP hS dX12_go_327
                · have hf := OB_f hf hs16_7
                  by_cases hs16_8 : (M 132 14) = 8
                  · have hf := OB_t hf hs16_8
                    refine lv_tableIn (off := 312) (tgt := 328) hx hb dX12_go_16 (by rw [hs16_8]; decide) (by rw [hs16_8]; decide) (by rw [hs16_8]; rfl) (by decide) ?_
                    refine lv_iload_n hx hb dX12_go_328 rfl (lv_at hl 0 rfl) ?_
                    refine lv_if_eq (tgt := 354) hx hb dX12_go_329 (by decide) (fun hc => ?_) (fun hc => ?_)
                    · have hf := (OB_f hf (bI_f hc))
                      refine lv_aload_n hx hb dX12_go_354 rfl (lv_at hl 1 rfl) ?_
                      refine lv_iload_n hx hb dX12_go_355 rfl (lv_at hl 2 rfl) ?_
                      refine x_cz1 (rest := []) (x_runV C hE hP hS ykX12_goBehind lkX12_243 sh132 rfl (c_X12_goBehind (OB_bind hf)) (by decide) rfl hl.1 (Nat.le_of_ble_eq_true rfl) dX12_go_356) hS (fun r14 M15 H locs hf hP hS => ?_)
                      exact hret _ _ _ _ _ _ (OB_some hf) hP hS dX12_go_359
                    · have hf := (OB_t hf (bI_t hc))
                      refine lv_aload_n hx hb dX12_go_332 rfl (lv_at hl 1 rfl) ?_
                      refine lv_bipush (v := 10) hx hb dX12_go_333 (by decide) ?_
                      refine lv_aload_n hx hb dX12_go_335 rfl (lv_at hl 1 rfl) ?_
                      refine gfX12_214 C hE hP dX12_go_336 ?_
                      refine lv_imul hx hb dX12_go_339 ?_
                      refine lv_iload_n hx hb dX12_go_340 rfl (lv_at hl 2 rfl) ?_
                      refine lv_iadd hx hb dX12_go_341 ?_
                      refine lv_bipush (v := 48) hx hb dX12_go_342 (by decide) ?_
                      refine lv_isub hx hb dX12_go_344 ?_
                      refine pfX12_214 C hE hP hS dX12_go_345 (fun H locs hP hS => ?_)
                      refine lv_aload_n hx hb dX12_go_348 rfl (lv_at hl 1 rfl) ?_
                      refine x_cv1 (rest := []) (x_runV C hE hP hS ykX12_endNumber lkX12_220 sh132 rfl (c_X12_endNumber (OB_bind hf)) (by decide) rfl hl.1 (Nat.le_of_ble_eq_true rfl) dX12_go_349) hS (fun M16 H locs hf hP hS => ?_)
                      refine lv_iconst (v := 1) hx hb dX12_go_352 (by decide) ?_
                      refine W.eq (g2 := F0 m 353 ls [.int (bI true)]) rfl ?_
                      exact hret _ _ _ _ _ _ (OB_some hf) hP hS dX12_go_353
                  · have hf := OB_f hf hs16_8
                    refine lv_tableOut (tgt := 360) hx hb dX12_go_16 (by have n0 := lv_neT hs16_0 (by decide : (0 : Int32).toInt = 0); have n1 := lv_neT hs16_1 (by decide : (1 : Int32).toInt = 1); have n2 := lv_neT hs16_2 (by decide : (2 : Int32).toInt = 2); have n3 := lv_neT hs16_3 (by decide : (3 : Int32).toInt = 3); have n4 := lv_neT hs16_4 (by decide : (4 : Int32).toInt = 4); have n5 := lv_neT hs16_5 (by decide : (5 : Int32).toInt = 5); have n6 := lv_neT hs16_6 (by decide : (6 : Int32).toInt = 6); have n7 := lv_neT hs16_7 (by decide : (7 : Int32).toInt = 7); have n8 := lv_neT hs16_8 (by decide : (8 : Int32).toInt = 8); omega) (by decide) ?_
                    refine lv_aload_n hx hb dX12_go_360 rfl (lv_at hl 1 rfl) ?_
                    refine lv_iload_n hx hb dX12_go_361 rfl (lv_at hl 2 rfl) ?_
                    refine x_cz1 (rest := []) (x_runV C hE hP hS ykX12_goBehind lkX12_243 sh132 rfl (c_X12_goBehind (OB_bind hf)) (by decide) rfl hl.1 (Nat.le_of_ble_eq_true rfl) dX12_go_362) hS (fun r17 M18 H locs hf hP hS => ?_)
                    exact hret _ _ _ _ _ _ (OB_some hf) hP hS dX12_go_365
def rm_X12_faultOf : Room := { frames := 4, cells := 0, slots := 0, locals := 86 }
set_option maxRecDepth 100000 in
set_option maxHeartbeats 8000000 in
theorem c_X12_faultOf {l : Launch} {G : GG}  {M : Mem} {h : Int64}  {P9 : (Int32 × Mem) → Prop} (hf : OB (f_X12_faultOf M) P9) : Met1 l yX12_faultOf cX12_faultOf 2 (some .int) rm_X12_faultOf G [.ref (xa G 132)] M h (QI1 G h P9) := by
  unfold f_X12_faultOf at hf
  refine xm_i1 (by decide) (Nat.le_of_ble_eq_true rfl) ?_
  intro p e s m args below meth c ls Q C hE hret hP hS hl
  have C : CallFix p m c cX12_faultOf 2 s args TB RX12 := C
  have hx := C.1
  have hb := C.2.1
  have hl : lv_has ls 2 [(0, .ref (xa G 132))] := hl
  refine lv_aload_n hx hb dX12_faultOf_0 rfl (lv_at hl 0 rfl) ?_
  refine lv_iconst (v := 0) hx hb dX12_faultOf_1 (by decide) ?_
  refine pfX12_217 C hE hP hS dX12_faultOf_2 (fun H locs hP hS => ?_)
  refine lv_aload_n hx hb dX12_faultOf_5 rfl (lv_at hl 0 rfl) ?_
  refine lv_iconst (v := 0) hx hb dX12_faultOf_6 (by decide) ?_
  refine pfX12_198 C hE hP hS dX12_faultOf_7 (fun H locs hP hS => ?_)
  refine lv_aload_n hx hb dX12_faultOf_10 rfl (lv_at hl 0 rfl) ?_
  refine lv_iconst (v := 0) hx hb dX12_faultOf_11 (by decide) ?_
  refine pfX12_201 C hE hP hS dX12_faultOf_12 (fun H locs hP hS => ?_)
  refine lv_iconst (v := 0) hx hb dX12_faultOf_15 (by decide) ?_
  refine lv_istore_n (lv' := [(1, .int 0), (0, .ref (xa G 132))]) hx hb dX12_faultOf_16 rfl hl (by decide) rfl (fun ls hl => ?_)
  refine xj (fun (zz : (Int32 × Mem)) => match zz with | (x18, M19) => ∀ (H : Heap) (locs : List Loc) (ls : Array Slot), va_P G.1 vwCl (wl G M19 h) H → va_S (Aw G) s.heap H locs → lv_has ls 2 [(1, .int x18)] → W p l e rm_X12_faultOf s m args below meth c H locs 0 0 Q (F0 m 44 ls [])) hf ?_ (fun hf => ?_)
  · rintro ⟨x18, M19⟩ hf H locs ls hP hS hl
    refine lv_iload_n hx hb dX12_faultOf_44 rfl (lv_at hl 0 rfl) ?_
    exact hret _ _ _ _ _ _ (OB_some hf) hP hS dX12_faultOf_45
  · refine (it_W (fun (zz : (Int32 × Mem)) => match zz with | (x16, M17) => ∀ (H : Heap) (locs : List Loc) (ls : Array Slot), va_P G.1 vwCl (wl G M17 h) H → va_S (Aw G) s.heap H locs → lv_has ls 2 [(0, .ref (xa G 132)), (1, .int x16)] → W p l e rm_X12_faultOf s m args below meth c H locs 0 0 Q (F0 m 17 ls [])) hf ?_) _ _ _ hP hS (lv_sub hl [1, 0] rfl)
    rintro ⟨x16, M17⟩ hf H locs ls hP hS hl
    unfold f_X12_faultOf_b17 at hf
    refine lv_iload_n hx hb dX12_faultOf_17 rfl (lv_at hl 1 rfl) ?_
    refine lv_aload_n hx hb dX12_faultOf_18 rfl (lv_at hl 0 rfl) ?_
    refine gfX12_195 C hE hP dX12_faultOf_19 ?_
    refine lv_icmp_ge (tgt := 44) hx hb dX12_faultOf_22 (by decide) (fun hc => ?_) (fun hc => ?_)
    · have hf := (OB_t hf hc)
      exact (it_e hf) _ _ _ hP hS (lv_sub hl [1] rfl)
    · have hf := (OB_f hf hc)
      refine lv_aload_n hx hb dX12_faultOf_25 rfl (lv_at hl 0 rfl) ?_
      refine lv_aload_n hx hb dX12_faultOf_26 rfl (lv_at hl 0 rfl) ?_
      refine gfX12_25 C hE hP dX12_faultOf_27 ?_
      refine lv_iload_n hx hb dX12_faultOf_30 rfl (lv_at hl 1 rfl) ?_
      obtain ⟨g20, hf⟩ := OB_g hf
      refine x_iald C hE hP sh138 g20 dX12_faultOf_31 ?_
      refine x_cz1 (rest := []) (x_runV C hE hP hS ykX12_go lkX12_246 sh132 rfl (c_X12_go (OB_bind hf)) (by decide) rfl hl.1 (Nat.le_of_ble_eq_true rfl) dX12_faultOf_32) hS (fun r21 M22 H locs hf hP hS => ?_)
      refine lv_if_eq (tgt := 44) hx hb dX12_faultOf_35 (by decide) (fun hc => ?_) (fun hc => ?_)
      · have hf := (OB_f hf (bI_f hc))
        exact (it_e hf) _ _ _ hP hS (lv_sub hl [1] rfl)
      · have hf := (OB_t hf (bI_t hc))
        refine lv_iinc (v := (x16 + 1)) (lv' := [(1, .int (x16 + 1)), (0, .ref (xa G 132))]) hx hb dX12_faultOf_38 hl (k := 1) rfl rfl (by decide) rfl (fun ls hl => ?_)
        refine lv_goto (tgt := 17) hx hb dX12_faultOf_41 (by decide) ?_
        exact (it_c hf) _ _ _ hP hS (lv_sub hl [1, 0] rfl)
def rm_X12_fault : Room := { frames := 5, cells := 0, slots := 0, locals := 107 }
set_option maxRecDepth 100000 in
set_option maxHeartbeats 8000000 in
theorem c_X12_fault {l : Launch} {G : GG}  {M : Mem} {h : Int64}  {P9 : (Int32 × Mem) → Prop} (hf : OB (f_X12_fault M) P9) : Met1 l yX12_fault cX12_fault 1 (some .int) rm_X12_fault G [.ref (xa G 132)] M h (QI1 G h P9) := by
  unfold f_X12_fault at hf
  refine xm_i1 (by decide) (Nat.le_of_ble_eq_true rfl) ?_
  intro p e s m args below meth c ls Q C hE hret hP hS hl
  have C : CallFix p m c cX12_fault 1 s args TB RX12 := C
  have hx := C.1
  have hb := C.2.1
  have hl : lv_has ls 1 [(0, .ref (xa G 132))] := hl
  refine lv_aload_n hx hb dX12_fault_0 rfl (lv_at hl 0 rfl) ?_
  refine x_ci1 (rest := []) (x_runV C hE hP hS ykX12_faultOf lkX12_249 sh132 rfl (c_X12_faultOf (OB_bind hf)) (by decide) rfl hl.1 (Nat.le_of_ble_eq_true rfl) dX12_fault_1) hS (fun r1 M2 H locs hf hP hS => ?_)
  exact hret _ _ _ _ _ _ (OB_some hf) hP hS dX12_fault_4
def rm_X12_isHolder : Room := { frames := 1, cells := 0, slots := 0, locals := 25 }
set_option maxRecDepth 100000 in
set_option maxHeartbeats 8000000 in
theorem c_X12_isHolder {l : Launch} {G : GG} {a0 : Int32} {M : Mem} {h : Int64}  {P9 : Bool → Prop} (hf : OB (f_X12_isHolder a0) P9) : Met1 l yX12_isHolder cX12_isHolder 1 (some .boolean) rm_X12_isHolder G [.int a0] M h (QZ0 G M h P9) := by
  unfold f_X12_isHolder at hf
  refine xm_z0 (by decide) (Nat.le_of_ble_eq_true rfl) ?_
  intro p e s m args below meth c ls Q C hE hret hP hS hl
  have C : CallFix p m c cX12_isHolder 1 s args TB RX12 := C
  have hx := C.1
  have hb := C.2.1
  have hl : lv_has ls 1 [(0, .int a0)] := hl
  refine lv_iload_n hx hb dX12_isHolder_0 rfl (lv_at hl 0 rfl) ?_
  refine lv_i2l hx hb dX12_isHolder_1 rfl ?_
  refine lv_lconst (v := 0) hx hb dX12_isHolder_2 (by decide) ?_
  refine lv_lconst (v := 1) hx hb dX12_isHolder_3 (by decide) ?_
  refine x_cz0 (rest := []) (x_runS C hE hP hS ykX12_in lkX12_92 (c_X12_in (OB_bind hf)) (by decide) rfl hl.1 (Nat.le_of_ble_eq_true rfl) dX12_isHolder_4) hS (fun r1 H locs hf hP hS => ?_)
  exact hret _ _ _ _ _ (OB_some hf) hP hS dX12_isHolder_7
def rm_X12_law : Room := { frames := 5, cells := 0, slots := 0, locals := 107 }
set_option maxRecDepth 100000 in
set_option maxHeartbeats 8000000 in
theorem c_X12_law {l : Launch} {G : GG} {a1 : Int32} {M : Mem} {h : Int64}  {P9 : (Int32 × Mem) → Prop} (hf : OB (f_X12_law a1 M) P9) : Met1 l yX12_law cX12_law 4 (some .int) rm_X12_law G [.ref (xa G 132), .int a1] M h (QI1 G h P9) := by
  unfold f_X12_law at hf
  refine xm_i1 (by decide) (Nat.le_of_ble_eq_true rfl) ?_
  intro p e s m args below meth c ls Q C hE hret hP hS hl
  have C : CallFix p m c cX12_law 4 s args TB RX12 := C
  have hx := C.1
  have hb := C.2.1
  have hl : lv_has ls 4 [(0, .ref (xa G 132)), (1, .int a1)] := hl
  refine lv_iload_n hx hb dX12_law_0 rfl (lv_at hl 1 rfl) ?_
  refine x_cz0 (rest := []) (x_runS C hE hP hS ykX12_isHolder lkX12_252 (c_X12_isHolder (OB_bind hf)) (by decide) rfl hl.1 (Nat.le_of_ble_eq_true rfl) dX12_law_1) hS (fun r1 H locs hf hP hS => ?_)
  refine lv_if_ne (tgt := 10) hx hb dX12_law_4 (by decide) (fun hc => ?_) (fun hc => ?_)
  · have hf := (OB_t hf (bI_t hc))
    refine lv_aload_n hx hb dX12_law_10 rfl (lv_at hl 0 rfl) ?_
    refine x_ci1 (rest := []) (x_runV C hE hP hS ykX12_faultOf lkX12_249 sh132 rfl (c_X12_faultOf (OB_bind hf)) (by decide) rfl hl.1 (Nat.le_of_ble_eq_true rfl) dX12_law_11) hS (fun r2 M3 H locs hf hP hS => ?_)
    refine lv_aload_n hx hb dX12_law_14 rfl (lv_at hl 0 rfl) ?_
    refine gfX12_195 C hE hP dX12_law_15 ?_
    refine lv_icmp_lt (tgt := 46) hx hb dX12_law_18 (by decide) (fun hc => ?_) (fun hc => ?_)
    · have hf := (OB_t hf hc)
      refine lv_bipush (v := -103) hx hb dX12_law_46 (by decide) ?_
      exact hret _ _ _ _ _ _ (OB_some hf) hP hS dX12_law_48
    · have hf := (OB_f hf hc)
      refine lv_aload_n hx hb dX12_law_21 rfl (lv_at hl 0 rfl) ?_
      refine gfX12_217 C hE hP dX12_law_22 ?_
      refine lv_iconst (v := 3) hx hb dX12_law_25 (by decide) ?_
      have hj49 : ∀ (H : Heap) (locs : List Loc) (ls : Array Slot), OB (f_X12_law_j49_1 a1 M3) P9 → va_P G.1 vwCl (wl G M3 h) H → va_S (Aw G) s.heap H locs → lv_has ls 4 [(0, .ref (xa G 132)), (1, .int a1)] → W p l e rm_X12_law s m args below meth c H locs 0 0 Q (F0 m 49 ls []) := by
        intro  H locs ls hf hP hS hl
        refine lv_aload_n hx hb dX12_law_49 rfl (lv_at hl 0 rfl) ?_
        refine gfX12_28 C hE hP dX12_law_50 ?_
        refine lv_iload_n hx hb dX12_law_53 rfl (lv_at hl 1 rfl) ?_
        obtain ⟨g44, hf⟩ := OB_g hf
        refine x_iald C hE hP sh139 g44 dX12_law_54 ?_
        refine lv_bipush (v := 8) hx hb dX12_law_55 (by decide) ?_
        refine lv_icmp_ne (tgt := 63) hx hb dX12_law_57 (by decide) (fun hc => ?_) (fun hc => ?_)
        · have hf := (OB_f hf hc)
          refine lv_aload_n hx hb dX12_law_63 rfl (lv_at hl 0 rfl) ?_
          refine gfX12_217 C hE hP dX12_law_64 ?_
          refine lv_bipush (v := 8) hx hb dX12_law_67 (by decide) ?_
          refine xj (fun (M47 : Mem) => ∀ (H : Heap) (locs : List Loc) (ls : Array Slot), va_P G.1 vwCl (wl G M47 h) H → va_S (Aw G) s.heap H locs → lv_has ls 4 [(0, .ref (xa G 132)), (1, .int a1)] → W p l e rm_X12_law s m args below meth c H locs 0 0 Q (F0 m 76 ls [])) hf ?_ (fun hf => ?_)
          · rintro M47 hf H locs ls hP hS hl
            refine lv_aload_n hx hb dX12_law_76 rfl (lv_at hl 0 rfl) ?_
            refine lv_bipush (v := 11) hx hb dX12_law_77 (by decide) ?_
            refine x_cv1 (rest := []) (x_runV C hE hP hS ykX12_layDown lkX12_223 sh132 rfl (c_X12_layDown (OB_bind hf)) (by decide) rfl hl.1 (Nat.le_of_ble_eq_true rfl) dX12_law_79) hS (fun M49 H locs hf hP hS => ?_)
            refine lv_bipush (v := 8) hx hb dX12_law_82 (by decide) ?_
            refine lv_iload_n hx hb dX12_law_84 rfl (lv_at hl 1 rfl) ?_
            refine lv_imul hx hb dX12_law_85 ?_
            refine lv_aload_n hx hb dX12_law_86 rfl (lv_at hl 0 rfl) ?_
            refine gfX12_28 C hE hP dX12_law_87 ?_
            refine lv_iload_n hx hb dX12_law_90 rfl (lv_at hl 1 rfl) ?_
            refine x_iald C hE hP sh139 g44 dX12_law_91 ?_
            refine lv_iadd hx hb dX12_law_92 ?_
            refine lv_istore_n (lv' := [(2, .int ((8 * a1) + (M49 139 (Int32.toNatClampNeg a1)))), (0, .ref (xa G 132)), (1, .int a1)]) hx hb dX12_law_93 rfl hl (by decide) rfl (fun ls hl => ?_)
            refine lv_aload_n hx hb dX12_law_94 rfl (lv_at hl 1 rfl) ?_
            refine gfX12_31 C hE hP dX12_law_95 ?_
            refine lv_iload_n hx hb dX12_law_98 rfl (lv_at hl 0 rfl) ?_
            refine lv_aload_n hx hb dX12_law_99 rfl (lv_at hl 1 rfl) ?_
            refine gfX12_234 C hE hP dX12_law_100 ?_
            obtain ⟨g50, hf⟩ := OB_g hf
            refine x_iast C hE hP hS sh140 g50 dX12_law_103 (fun H locs hP hS => ?_)
            refine lv_aload_n hx hb dX12_law_104 rfl (lv_at hl 1 rfl) ?_
            refine gfX12_34 C hE hP dX12_law_105 ?_
            refine lv_iload_n hx hb dX12_law_108 rfl (lv_at hl 0 rfl) ?_
            refine lv_aload_n hx hb dX12_law_109 rfl (lv_at hl 1 rfl) ?_
            refine gfX12_237 C hE hP dX12_law_110 ?_
            refine x_iast C hE hP hS sh141 g50 dX12_law_113 (fun H locs hP hS => ?_)
            refine lv_aload_n hx hb dX12_law_114 rfl (lv_at hl 1 rfl) ?_
            refine gfX12_37 C hE hP dX12_law_115 ?_
            refine lv_iload_n hx hb dX12_law_118 rfl (lv_at hl 0 rfl) ?_
            refine lv_aload_n hx hb dX12_law_119 rfl (lv_at hl 1 rfl) ?_
            refine gfX12_198 C hE hP dX12_law_120 ?_
            refine x_iast C hE hP hS sh142 g50 dX12_law_123 (fun H locs hP hS => ?_)
            refine lv_iconst (v := 0) hx hb dX12_law_124 (by decide) ?_
            refine lv_istore_n (lv' := [(3, .int 0), (2, .int ((8 * a1) + (M49 139 (Int32.toNatClampNeg a1)))), (0, .ref (xa G 132)), (1, .int a1)]) hx hb dX12_law_125 rfl hl (by decide) rfl (fun ls hl => ?_)
            refine xj (fun (M61 : Mem) => ∀ (H : Heap) (locs : List Loc) (ls : Array Slot), va_P G.1 vwCl (wl G M61 h) H → va_S (Aw G) s.heap H locs → lv_has ls 4 [(0, .ref (xa G 132)), (1, .int a1)] → W p l e rm_X12_law s m args below meth c H locs 0 0 Q (F0 m 174 ls [])) hf ?_ (fun hf => ?_)
            · rintro M61 hf H locs ls hP hS hl
              refine lv_aload_n hx hb dX12_law_174 rfl (lv_at hl 0 rfl) ?_
              refine gfX12_28 C hE hP dX12_law_175 ?_
              refine lv_iload_n hx hb dX12_law_178 rfl (lv_at hl 1 rfl) ?_
              refine lv_dup2_11 hx hb dX12_law_179 rfl rfl ?_
              refine x_iald C hE hP sh139 g44 dX12_law_180 ?_
              refine lv_iconst (v := 1) hx hb dX12_law_181 (by decide) ?_
              refine lv_iadd hx hb dX12_law_182 ?_
              refine x_iast C hE hP hS sh139 g44 dX12_law_183 (fun H locs hP hS => ?_)
              refine lv_aload_n hx hb dX12_law_184 rfl (lv_at hl 0 rfl) ?_
              refine lv_iconst (v := 0) hx hb dX12_law_185 (by decide) ?_
              refine pfX12_195 C hE hP hS dX12_law_186 (fun H locs hP hS => ?_)
              refine lv_aload_n hx hb dX12_law_189 rfl (lv_at hl 0 rfl) ?_
              refine gfX12_28 C hE hP dX12_law_190 ?_
              refine lv_iload_n hx hb dX12_law_193 rfl (lv_at hl 1 rfl) ?_
              refine x_iald C hE hP sh139 g44 dX12_law_194 ?_
              exact hret _ _ _ _ _ _ (OB_some hf) hP hS dX12_law_195
            · refine (it_W (fun (zz : (Int32 × Mem)) => match zz with | (x59, M60) => ∀ (H : Heap) (locs : List Loc) (ls : Array Slot), va_P G.1 vwCl (wl G M60 h) H → va_S (Aw G) s.heap H locs → lv_has ls 4 [(0, .ref (xa G 132)), (1, .int a1), (2, .int ((8 * a1) + (M49 139 (Int32.toNatClampNeg a1)))), (3, .int x59)] → W p l e rm_X12_law s m args below meth c H locs 0 0 Q (F0 m 126 ls [])) hf ?_) _ _ _ hP hS (lv_sub hl [2, 3, 1, 0] rfl)
              rintro ⟨x59, M60⟩ hf H locs ls hP hS hl
              unfold f_X12_law_b126 at hf
              refine lv_iload_n hx hb dX12_law_126 rfl (lv_at hl 3 rfl) ?_
              refine lv_aload_n hx hb dX12_law_127 rfl (lv_at hl 0 rfl) ?_
              refine gfX12_198 C hE hP dX12_law_128 ?_
              refine lv_icmp_ge (tgt := 174) hx hb dX12_law_131 (by decide) (fun hc => ?_) (fun hc => ?_)
              · have hf := (OB_t hf hc)
                exact (it_e hf) _ _ _ hP hS (lv_sub hl [0, 1] rfl)
              · have hf := (OB_f hf hc)
                refine lv_aload_n hx hb dX12_law_134 rfl (lv_at hl 0 rfl) ?_
                refine gfX12_40 C hE hP dX12_law_135 ?_
                refine lv_bipush (v := 50) hx hb dX12_law_138 (by decide) ?_
                refine lv_iload_n hx hb dX12_law_140 rfl (lv_at hl 2 rfl) ?_
                refine lv_imul hx hb dX12_law_141 ?_
                refine lv_iload_n hx hb dX12_law_142 rfl (lv_at hl 3 rfl) ?_
                refine lv_iadd hx hb dX12_law_143 ?_
                refine lv_aload_n hx hb dX12_law_144 rfl (lv_at hl 0 rfl) ?_
                refine gfX12_46 C hE hP dX12_law_145 ?_
                refine lv_iload_n hx hb dX12_law_148 rfl (lv_at hl 3 rfl) ?_
                obtain ⟨g62, hf⟩ := OB_g hf
                refine x_iald C hE hP sh145 g62 dX12_law_149 ?_
                obtain ⟨g63, hf⟩ := OB_g hf
                refine x_iast C hE hP hS sh143 g63 dX12_law_150 (fun H locs hP hS => ?_)
                refine lv_aload_n hx hb dX12_law_151 rfl (lv_at hl 0 rfl) ?_
                refine gfX12_43 C hE hP dX12_law_152 ?_
                refine lv_bipush (v := 50) hx hb dX12_law_155 (by decide) ?_
                refine lv_iload_n hx hb dX12_law_157 rfl (lv_at hl 2 rfl) ?_
                refine lv_imul hx hb dX12_law_158 ?_
                refine lv_iload_n hx hb dX12_law_159 rfl (lv_at hl 3 rfl) ?_
                refine lv_iadd hx hb dX12_law_160 ?_
                refine lv_aload_n hx hb dX12_law_161 rfl (lv_at hl 0 rfl) ?_
                refine gfX12_49 C hE hP dX12_law_162 ?_
                refine lv_iload_n hx hb dX12_law_165 rfl (lv_at hl 3 rfl) ?_
                refine x_iald C hE hP sh146 g62 dX12_law_166 ?_
                refine x_iast C hE hP hS sh144 g63 dX12_law_167 (fun H locs hP hS => ?_)
                refine lv_iinc (v := (x59 + 1)) (lv' := [(3, .int (x59 + 1)), (0, .ref (xa G 132)), (1, .int a1), (2, .int ((8 * a1) + (M49 139 (Int32.toNatClampNeg a1))))]) hx hb dX12_law_168 hl (k := 3) rfl rfl (by decide) rfl (fun ls hl => ?_)
                refine lv_goto (tgt := 126) hx hb dX12_law_171 (by decide) ?_
                exact (it_c hf) _ _ _ hP hS (lv_sub hl [1, 2, 3, 0] rfl)
          · skip
            refine lv_icmp_ne (tgt := 76) hx hb dX12_law_69 (by decide) (fun hc => ?_) (fun hc => ?_)
            · have hf := (OB_f hf hc)
              exact (OB_some hf) _ _ _ hP hS (lv_sub hl [0, 1] rfl)
            · have hf := (OB_t hf hc)
              refine lv_aload_n hx hb dX12_law_72 rfl (lv_at hl 0 rfl) ?_
              refine x_cv1 (rest := []) (x_runV C hE hP hS ykX12_endNumber lkX12_220 sh132 rfl (c_X12_endNumber (OB_bind hf)) (by decide) rfl hl.1 (Nat.le_of_ble_eq_true rfl) dX12_law_73) hS (fun M48 H locs hf hP hS => ?_)
              exact (OB_some hf) _ _ _ hP hS (lv_sub hl [0, 1] rfl)
        · have hf := (OB_t hf hc)
          refine lv_bipush (v := -104) hx hb dX12_law_60 (by decide) ?_
          exact hret _ _ _ _ _ _ (OB_some hf) hP hS dX12_law_62
      refine lv_icmp_eq (tgt := 49) hx hb dX12_law_26 (by decide) (fun hc => ?_) (fun hc => ?_)
      · have hf := (OB_t hf hc)
        exact hj49  _ _ _ hf hP hS (lv_sub hl [0, 1] rfl)
      · have hf := (OB_f hf hc)
        refine lv_aload_n hx hb dX12_law_29 rfl (lv_at hl 0 rfl) ?_
        refine gfX12_217 C hE hP dX12_law_30 ?_
        refine lv_iconst (v := 4) hx hb dX12_law_33 (by decide) ?_
        refine lv_icmp_eq (tgt := 49) hx hb dX12_law_34 (by decide) (fun hc => ?_) (fun hc => ?_)
        · have hf := (OB_t hf hc)
          exact hj49  _ _ _ hf hP hS (lv_sub hl [0, 1] rfl)
        · have hf := (OB_f hf hc)
          refine lv_aload_n hx hb dX12_law_37 rfl (lv_at hl 0 rfl) ?_
          refine gfX12_217 C hE hP dX12_law_38 ?_
          refine lv_bipush (v := 8) hx hb dX12_law_41 (by decide) ?_
          refine lv_icmp_ge (tgt := 49) hx hb dX12_law_43 (by decide) (fun hc => ?_) (fun hc => ?_)
          · have hf := (OB_t hf hc)
            exact hj49  _ _ _ hf hP hS (lv_sub hl [0, 1] rfl)
          · have hf := (OB_f hf hc)
            refine lv_bipush (v := -103) hx hb dX12_law_46 (by decide) ?_
            exact hret _ _ _ _ _ _ (OB_some hf) hP hS dX12_law_48
  · have hf := (OB_f hf (bI_f hc))
    refine lv_bipush (v := -101) hx hb dX12_law_7 (by decide) ?_
    exact hret _ _ _ _ _ _ (OB_some hf) hP hS dX12_law_9
