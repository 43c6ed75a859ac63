def rm_X4_read : Room := { frames := 6, cells := 0, slots := 0, locals := 133 }
set_option maxRecDepth 100000 in
set_option maxHeartbeats 8000000 in
theorem c_X4_read {l : Launch} {G : GG} {Q0 : Nat} {M : Mem} {h : Int64} (hQ0 : isLaw Q0) {P9 : Mem → Prop} (hf : OB (f_X4_read Q0 M) P9) : Met1 l yX4_read cX4_read 4 none rm_X4_read G [.ref (xa G Q0), .ref (xa G 10)] M h (QV1 G h P9) := by
  unfold f_X4_read at hf
  refine xm_v1 (by decide) (Nat.le_of_ble_eq_true rfl) ?_
  intro p e s m args below meth c ls Q C hE hret hP hS hl
  have C : CallFix p m c cX4_read 4 s args TB RX4 := C
  have hx := C.1
  have hb := C.2.1
  have hl : lv_has ls 4 [(0, .ref (xa G Q0)), (1, .ref (xa G 10))] := hl
  refine lv_aload_n hx hb dX4_read_0 rfl (lv_at hl 0 rfl) ?_
  refine lv_iconst (v := 0) hx hb dX4_read_1 (by decide) ?_
  refine pfX4_26 hQ0 C hE hP hS dX4_read_2 (fun H locs hP hS => ?_)
  refine lv_aload_n hx hb dX4_read_5 rfl (lv_at hl 0 rfl) ?_
  refine lv_iconst (v := 0) hx hb dX4_read_6 (by decide) ?_
  refine pfX4_30 hQ0 C hE hP hS dX4_read_7 (fun H locs hP hS => ?_)
  refine lv_iconst (v := 0) hx hb dX4_read_10 (by decide) ?_
  refine lv_istore_n (lv' := [(2, .int 0), (0, .ref (xa G Q0)), (1, .ref (xa G 10))]) hx hb dX4_read_11 rfl hl (by decide) rfl (fun ls hl => ?_)
  refine lv_iconst (v := 0) hx hb dX4_read_12 (by decide) ?_
  refine lv_istore_n (lv' := [(3, .int 0), (2, .int 0), (0, .ref (xa G Q0)), (1, .ref (xa G 10))]) hx hb dX4_read_13 rfl hl (by decide) rfl (fun ls hl => ?_)
  refine xj (fun (M30 : Mem) => ∀ (H : Heap) (locs : List Loc) (ls : Array Slot), va_P G.1 vwCl (wl G M30 h) H → va_S (Aw G) s.heap H locs → lv_has ls 4 [] → W p l e rm_X4_read s m args below meth c H locs 0 0 Q (F0 m 57 ls [])) hf ?_ (fun hf => ?_)
  · rintro M30 hf H locs ls hP hS hl
    exact hret _ _ _ _ _ (OB_some hf) hP hS dX4_read_57
  · refine (it_W (fun (zz : (Int32 × Int32 × Mem)) => match zz with | (x27, x28, M29) => ∀ (H : Heap) (locs : List Loc) (ls : Array Slot), va_P G.1 vwCl (wl G M29 h) H → va_S (Aw G) s.heap H locs → lv_has ls 4 [(0, .ref (xa G Q0)), (1, .ref (xa G 10)), (2, .int x27), (3, .int x28)] → W p l e rm_X4_read s m args below meth c H locs 0 0 Q (F0 m 14 ls [])) hf ?_) _ _ _ hP hS (lv_sub hl [2, 3, 1, 0] rfl)
    rintro ⟨x27, x28, M29⟩ hf H locs ls hP hS hl
    unfold f_X4_read_b14 at hf
    refine lv_iload_n hx hb dX4_read_14 rfl (lv_at hl 3 rfl) ?_
    refine lv_aload_n hx hb dX4_read_15 rfl (lv_at hl 1 rfl) ?_
    refine x_ci0 (rest := [.int x28]) (x_runV C hE hP hS ykX6_size lkX4_35 sh10 rfl (c_X6_size (OB_bind hf)) (by decide) rfl hl.1 (Nat.le_of_ble_eq_true rfl) dX4_read_16) hS (fun r31 H locs hf hP hS => ?_)
    refine lv_icmp_ge (tgt := 57) hx hb dX4_read_19 (by decide) (fun hc => ?_) (fun hc => ?_)
    · have hf := (OB_t hf hc)
      exact (it_e hf) _ _ _ hP hS (lv_sub hl [] rfl)
    · have hf := (OB_f hf hc)
      refine lv_iload_n hx hb dX4_read_22 rfl (lv_at hl 2 rfl) ?_
      refine lv_aload_n hx hb dX4_read_23 rfl (lv_at hl 1 rfl) ?_
      refine lv_iload_n hx hb dX4_read_24 rfl (lv_at hl 3 rfl) ?_
      refine x_ci0 (rest := [.int x27]) (x_runV C hE hP hS ykX6_letterAt lkX4_39 sh10 rfl (c_X6_letterAt (OB_bind hf)) (by decide) rfl hl.1 (Nat.le_of_ble_eq_true rfl) dX4_read_25) hS (fun r32 H locs hf hP hS => ?_)
      refine x_ci0 (rest := []) (x_runS C hE hP hS ykX6_next lkX4_43 (c_X6_next (OB_bind hf)) (by decide) rfl hl.1 (Nat.le_of_ble_eq_true rfl) dX4_read_28) hS (fun r33 H locs hf hP hS => ?_)
      refine lv_istore_n (lv' := [(2, .int r33), (0, .ref (xa G Q0)), (1, .ref (xa G 10)), (3, .int x28)]) hx hb dX4_read_31 rfl hl (by decide) rfl (fun ls hl => ?_)
      refine lv_aload_n hx hb dX4_read_32 rfl (lv_at hl 1 rfl) ?_
      refine gfX4_30 hQ0 C hE hP dX4_read_33 ?_
      refine lv_bipush (v := 12) hx hb dX4_read_36 (by decide) ?_
      refine xj (fun (M38 : Mem) => ∀ (H : Heap) (locs : List Loc) (ls : Array Slot), va_P G.1 vwCl (wl G M38 h) H → va_S (Aw G) s.heap H locs → lv_has ls 4 [(0, .ref (xa G Q0)), (1, .ref (xa G 10)), (2, .int r33), (3, .int x28)] → W p l e rm_X4_read s m args below meth c H locs 0 0 Q (F0 m 51 ls [])) hf ?_ (fun hf => ?_)
      · rintro M38 hf H locs ls hP hS hl
        refine lv_iinc (v := (x28 + 1)) (lv' := [(3, .int (x28 + 1)), (0, .ref (xa G Q0)), (1, .ref (xa G 10)), (2, .int r33)]) hx hb dX4_read_51 hl (k := 3) rfl rfl (by decide) rfl (fun ls hl => ?_)
        refine lv_goto (tgt := 14) hx hb dX4_read_54 (by decide) ?_
        exact (it_c hf) _ _ _ hP hS (lv_sub hl [1, 2, 3, 0] rfl)
      · skip
        refine lv_icmp_ge (tgt := 51) hx hb dX4_read_38 (by decide) (fun hc => ?_) (fun hc => ?_)
        · have hf := (OB_t hf hc)
          exact (OB_some hf) _ _ _ hP hS (lv_sub hl [1, 2, 0, 3] rfl)
        · have hf := (OB_f hf hc)
          refine lv_aload_n hx hb dX4_read_41 rfl (lv_at hl 1 rfl) ?_
          refine lv_iload_n hx hb dX4_read_42 rfl (lv_at hl 0 rfl) ?_
          refine lv_aload_n hx hb dX4_read_43 rfl (lv_at hl 2 rfl) ?_
          refine lv_iload_n hx hb dX4_read_44 rfl (lv_at hl 3 rfl) ?_
          refine x_ci0 (rest := [.int r33, .ref (xa G Q0)]) (x_runV C hE hP hS ykX6_letterAt lkX4_39 sh10 rfl (c_X6_letterAt (OB_bind hf)) (by decide) rfl hl.1 (Nat.le_of_ble_eq_true rfl) dX4_read_45) hS (fun r39 H locs hf hP hS => ?_)
          refine x_cv1 (rest := []) (x_runV C hE hP hS ykX4_take lkX4_47 (sh_L hQ0) rfl (c_X4_take hQ0 (OB_bind hf)) (by decide) rfl hl.1 (Nat.le_of_ble_eq_true rfl) dX4_read_48) hS (fun M40 H locs hf hP hS => ?_)
          exact (OB_some hf) _ _ _ hP hS (lv_sub hl [1, 2, 0, 3] rfl)
def rm_X3_read : Room := { frames := 7, cells := 0, slots := 0, locals := 156 }
set_option maxRecDepth 100000 in
set_option maxHeartbeats 8000000 in
theorem c_X3_read {l : Launch} {G : GG} {P : Nat} {M : Mem} {h : Int64} (hP0 : isHolder P) {P9 : (Int32 × Mem) → Prop} (hf : OB (f_X3_read P M) P9) : Met1 l yX3_read cX3_read 2 (some .int) rm_X3_read G [.ref (xa G P), .ref (xa G 10)] M h (QI1 G h P9) := by
  unfold f_X3_read at hf
  refine xm_i1 (by decide) (Nat.le_of_ble_eq_true rfl) ?_
  intro p e s m args below meth c ls Q C hE hret hP hS hl
  have C : CallFix p m c cX3_read 2 s args TB RX3 := C
  have hx := C.1
  have hb := C.2.1
  have hl : lv_has ls 2 [(0, .ref (xa G P)), (1, .ref (xa G 10))] := hl
  refine lv_aload_n hx hb dX3_read_0 rfl (lv_at hl 0 rfl) ?_
  refine gfX3_13 hP0 C hE hP dX3_read_1 ?_
  refine lv_aload_n hx hb dX3_read_4 rfl (lv_at hl 0 rfl) ?_
  refine gfX3_22 hP0 C hE hP dX3_read_5 ?_
  obtain ⟨g1, hf⟩ := OB_g hf
  refine x_aald C hE hP (sh_H1 hP0) g1 dX3_read_8 ?_
  have hQ2 := law_ok (i := (M P 2)) hP0 g1
  refine lv_aload_n hx hb dX3_read_9 rfl (lv_at hl 1 rfl) ?_
  refine x_cv1 (rest := []) (x_runV C hE hP hS ykX4_read lkX3_26 (sh_L hQ2) rfl (c_X4_read hQ2 (OB_bind hf)) (by decide) rfl hl.1 (Nat.le_of_ble_eq_true rfl) dX3_read_10) hS (fun M3 H locs hf hP hS => ?_)
  refine lv_aload_n hx hb dX3_read_13 rfl (lv_at hl 0 rfl) ?_
  refine lv_dup hx hb dX3_read_14 rfl ?_
  refine gfX3_22 hP0 C hE hP dX3_read_15 ?_
  refine lv_iconst (v := 1) hx hb dX3_read_18 (by decide) ?_
  refine lv_iadd hx hb dX3_read_19 ?_
  refine pfX3_22 hP0 C hE hP hS dX3_read_20 (fun H locs hP hS => ?_)
  refine lv_aload_n hx hb dX3_read_23 rfl (lv_at hl 0 rfl) ?_
  refine gfX3_22 hP0 C hE hP dX3_read_24 ?_
  exact hret _ _ _ _ _ _ (OB_some hf) hP hS dX3_read_27
def rm_X3_removeLast : Room := { frames := 0, cells := 0, slots := 0, locals := 0 }
set_option maxRecDepth 100000 in
set_option maxHeartbeats 8000000 in
theorem c_X3_removeLast {l : Launch} {G : GG} {P : Nat} {M : Mem} {h : Int64} (hP0 : isHolder P) {P9 : (Int32 × Mem) → Prop} (hf : OB (f_X3_removeLast P M) P9) : Met1 l yX3_removeLast cX3_removeLast 1 (some .int) rm_X3_removeLast G [.ref (xa G P)] M h (QI1 G h P9) := by
  unfold f_X3_removeLast at hf
  refine xm_i1 (by decide) (Nat.le_of_ble_eq_true rfl) ?_
  intro p e s m args below meth c ls Q C hE hret hP hS hl
  have C : CallFix p m c cX3_removeLast 1 s args TB RX3 := C
  have hx := C.1
  have hb := C.2.1
  have hl : lv_has ls 1 [(0, .ref (xa G P))] := hl
  refine lv_aload_n hx hb dX3_removeLast_0 rfl (lv_at hl 0 rfl) ?_
  refine lv_dup hx hb dX3_removeLast_1 rfl ?_
  refine gfX3_22 hP0 C hE hP dX3_removeLast_2 ?_
  refine lv_iconst (v := 1) hx hb dX3_removeLast_5 (by decide) ?_
  refine lv_isub hx hb dX3_removeLast_6 ?_
  refine pfX3_22 hP0 C hE hP hS dX3_removeLast_7 (fun H locs hP hS => ?_)
  refine lv_aload_n hx hb dX3_removeLast_10 rfl (lv_at hl 0 rfl) ?_
  refine gfX3_22 hP0 C hE hP dX3_removeLast_11 ?_
  exact hret _ _ _ _ _ _ (OB_some hf) hP hS dX3_removeLast_14
def rm_X4_factorHolds : Room := { frames := 0, cells := 0, slots := 0, locals := 0 }
set_option maxRecDepth 100000 in
set_option maxHeartbeats 8000000 in
theorem c_X4_factorHolds {l : Launch} {G : GG} {Q0 : Nat} {a1 : Int32} {a2 : Int32} {a3 : Int32} {a4 : Int32} {M : Mem} {h : Int64} (hQ0 : isLaw Q0) {P9 : Bool → Prop} (hf : OB (f_X4_factorHolds Q0 a1 a2 a3 a4 M) P9) : Met1 l yX4_factorHolds cX4_factorHolds 7 (some .boolean) rm_X4_factorHolds G [.ref (xa G Q0), .int a1, .int a2, .int a3, .int a4] M h (QZ0 G M h P9) := by
  unfold f_X4_factorHolds at hf
  refine xm_z0 (by decide) (Nat.le_of_ble_eq_true rfl) ?_
  intro p e s m args below meth c ls Q C hE hret hP hS hl
  have C : CallFix p m c cX4_factorHolds 7 s args TB RX4 := C
  have hx := C.1
  have hb := C.2.1
  have hl : lv_has ls 7 [(0, .ref (xa G Q0)), (1, .int a1), (2, .int a2), (3, .int a3), (4, .int a4)] := hl
  refine lv_aload_n hx hb dX4_factorHolds_0 rfl (lv_at hl 0 rfl) ?_
  refine gfX4_9 hQ0 C hE hP dX4_factorHolds_1 ?_
  refine lv_iload_n hx hb dX4_factorHolds_4 rfl (lv_at hl 1 rfl) ?_
  obtain ⟨g1, hf⟩ := OB_g hf
  refine x_iald C hE hP (sh_L1 hQ0) g1 dX4_factorHolds_5 ?_
  refine lv_bipush (v := 100) hx hb dX4_factorHolds_6 (by decide) ?_
  refine xj (fun (x2 : Int32) => ∀ (H : Heap) (locs : List Loc) (ls : Array Slot), va_P G.1 vwCl (wl G M h) H → va_S (Aw G) s.heap H locs → lv_has ls 7 [(0, .ref (xa G Q0)), (1, .int a1)] → W p l e rm_X4_factorHolds s m args below meth c H locs 0 0 Q (F0 m 32 ls [.int x2])) hf ?_ (fun hf => ?_)
  · rintro x2 hf H locs ls hP hS hl
    refine lv_istore (lv' := [(5, .int x2), (0, .ref (xa G Q0)), (1, .int a1)]) hx hb dX4_factorHolds_32 hl (by decide) rfl (fun ls hl => ?_)
    refine lv_aload_n hx hb dX4_factorHolds_34 rfl (lv_at hl 1 rfl) ?_
    refine gfX4_13 hQ0 C hE hP dX4_factorHolds_35 ?_
    refine lv_iload_n hx hb dX4_factorHolds_38 rfl (lv_at hl 2 rfl) ?_
    refine x_iald C hE hP (sh_L2 hQ0) g1 dX4_factorHolds_39 ?_
    refine lv_bipush (v := 60) hx hb dX4_factorHolds_40 (by decide) ?_
    refine xj (fun (x3 : Bool) => ∀ (H : Heap) (locs : List Loc) (ls : Array Slot), va_P G.1 vwCl (wl G M h) H → va_S (Aw G) s.heap H locs → lv_has ls 7 [(0, .ref (xa G Q0)), (1, .int a1)] → W p l e rm_X4_factorHolds s m args below meth c H locs 0 0 Q (F0 m 110 ls [.int (bI x3)])) hf ?_ (fun hf => ?_)
    · rintro x3 hf H locs ls hP hS hl
      refine lv_istore (lv' := [(6, .int (bI x3)), (0, .ref (xa G Q0)), (1, .int a1)]) hx hb dX4_factorHolds_110 hl (by decide) rfl (fun ls hl => ?_)
      refine lv_iload hx hb dX4_factorHolds_112 (lv_at hl 0 rfl) ?_
      refine lv_aload_n hx hb dX4_factorHolds_114 rfl (lv_at hl 1 rfl) ?_
      refine gfX4_19 hQ0 C hE hP dX4_factorHolds_115 ?_
      refine lv_iload_n hx hb dX4_factorHolds_118 rfl (lv_at hl 2 rfl) ?_
      refine x_zald C hE hP (sh_L4 hQ0) g1 dX4_factorHolds_119 ?_
      refine xj (fun (x4 : Bool) => ∀ (H : Heap) (locs : List Loc) (ls : Array Slot), va_P G.1 vwCl (wl G M h) H → va_S (Aw G) s.heap H locs → lv_has ls 7 [] → W p l e rm_X4_factorHolds s m args below meth c H locs 0 0 Q (F0 m 128 ls [.int (bI x4)])) hf ?_ (fun hf => ?_)
      · rintro x4 hf H locs ls hP hS hl
        exact hret _ _ _ _ _ (OB_some hf) hP hS dX4_factorHolds_128
      · skip
        refine lv_icmp_eq (tgt := 127) hx hb dX4_factorHolds_120 (by decide) (fun hc => ?_) (fun hc => ?_)
        · have hf := (OB_t hf hc)
          refine lv_iconst (v := 0) hx hb dX4_factorHolds_127 (by decide) ?_
          refine W.eq (g2 := F0 m 128 ls [.int (bI false)]) rfl ?_
          exact (OB_some hf) _ _ _ hP hS (lv_sub hl [] rfl)
        · have hf := (OB_f hf hc)
          refine lv_iconst (v := 1) hx hb dX4_factorHolds_123 (by decide) ?_
          refine lv_goto (tgt := 128) hx hb dX4_factorHolds_124 (by decide) ?_
          refine W.eq (g2 := F0 m 128 ls [.int (bI true)]) rfl ?_
          exact (OB_some hf) _ _ _ hP hS (lv_sub hl [] rfl)
    · skip
      refine lv_icmp_ne (tgt := 64) hx hb dX4_factorHolds_42 (by decide) (fun hc => ?_) (fun hc => ?_)
      · have hf := (OB_f hf hc)
        refine lv_aload_n hx hb dX4_factorHolds_64 rfl (lv_at hl 1 rfl) ?_
        refine gfX4_13 hQ0 C hE hP dX4_factorHolds_65 ?_
        refine lv_iload_n hx hb dX4_factorHolds_68 rfl (lv_at hl 2 rfl) ?_
        refine x_iald C hE hP (sh_L2 hQ0) g1 dX4_factorHolds_69 ?_
        refine lv_bipush (v := 61) hx hb dX4_factorHolds_70 (by decide) ?_
        refine lv_icmp_ne (tgt := 94) hx hb dX4_factorHolds_72 (by decide) (fun hc => ?_) (fun hc => ?_)
        · have hf := (OB_f hf hc)
          refine lv_iload hx hb dX4_factorHolds_94 (lv_at hl 0 rfl) ?_
          refine lv_aload_n hx hb dX4_factorHolds_96 rfl (lv_at hl 1 rfl) ?_
          refine gfX4_16 hQ0 C hE hP dX4_factorHolds_97 ?_
          refine lv_iload_n hx hb dX4_factorHolds_100 rfl (lv_at hl 2 rfl) ?_
          refine x_iald C hE hP (sh_L3 hQ0) g1 dX4_factorHolds_101 ?_
          refine lv_icmp_le (tgt := 109) hx hb dX4_factorHolds_102 (by decide) (fun hc => ?_) (fun hc => ?_)
          · have hf := (OB_t hf hc)
            refine lv_iconst (v := 0) hx hb dX4_factorHolds_109 (by decide) ?_
            refine W.eq (g2 := F0 m 110 ls [.int (bI false)]) rfl ?_
            exact (OB_some hf) _ _ _ hP hS (lv_sub hl [1, 2] rfl)
          · have hf := (OB_f hf hc)
            refine lv_iconst (v := 1) hx hb dX4_factorHolds_105 (by decide) ?_
            refine lv_goto (tgt := 110) hx hb dX4_factorHolds_106 (by decide) ?_
            refine W.eq (g2 := F0 m 110 ls [.int (bI true)]) rfl ?_
            exact (OB_some hf) _ _ _ hP hS (lv_sub hl [1, 2] rfl)
        · have hf := (OB_t hf hc)
          refine lv_iload hx hb dX4_factorHolds_75 (lv_at hl 0 rfl) ?_
          refine lv_aload_n hx hb dX4_factorHolds_77 rfl (lv_at hl 1 rfl) ?_
          refine gfX4_16 hQ0 C hE hP dX4_factorHolds_78 ?_
          refine lv_iload_n hx hb dX4_factorHolds_81 rfl (lv_at hl 2 rfl) ?_
          refine x_iald C hE hP (sh_L3 hQ0) g1 dX4_factorHolds_82 ?_
          refine lv_icmp_ne (tgt := 90) hx hb dX4_factorHolds_83 (by decide) (fun hc => ?_) (fun hc => ?_)
          · have hf := (OB_f hf hc)
            refine lv_iconst (v := 0) hx hb dX4_factorHolds_90 (by decide) ?_
            refine lv_goto (tgt := 110) hx hb dX4_factorHolds_91 (by decide) ?_
            refine W.eq (g2 := F0 m 110 ls [.int (bI false)]) rfl ?_
            exact (OB_some hf) _ _ _ hP hS (lv_sub hl [1, 2] rfl)
          · have hf := (OB_t hf hc)
            refine lv_iconst (v := 1) hx hb dX4_factorHolds_86 (by decide) ?_
            refine lv_goto (tgt := 110) hx hb dX4_factorHolds_87 (by decide) ?_
            refine W.eq (g2 := F0 m 110 ls [.int (bI true)]) rfl ?_
            exact (OB_some hf) _ _ _ hP hS (lv_sub hl [1, 2] rfl)
      · have hf := (OB_t hf hc)
        refine lv_iload hx hb dX4_factorHolds_45 (lv_at hl 0 rfl) ?_
        refine lv_aload_n hx hb dX4_factorHolds_47 rfl (lv_at hl 1 rfl) ?_
        refine gfX4_16 hQ0 C hE hP dX4_factorHolds_48 ?_
        refine lv_iload_n hx hb dX4_factorHolds_51 rfl (lv_at hl 2 rfl) ?_
        refine x_iald C hE hP (sh_L3 hQ0) g1 dX4_factorHolds_52 ?_
        refine lv_icmp_ge (tgt := 60) hx hb dX4_factorHolds_53 (by decide) (fun hc => ?_) (fun hc => ?_)
        · have hf := (OB_t hf hc)
          refine lv_iconst (v := 0) hx hb dX4_factorHolds_60 (by decide) ?_
          refine lv_goto (tgt := 110) hx hb dX4_factorHolds_61 (by decide) ?_
          refine W.eq (g2 := F0 m 110 ls [.int (bI false)]) rfl ?_
          exact (OB_some hf) _ _ _ hP hS (lv_sub hl [1, 2] rfl)
        · have hf := (OB_f hf hc)
          refine lv_iconst (v := 1) hx hb dX4_factorHolds_56 (by decide) ?_
          refine lv_goto (tgt := 110) hx hb dX4_factorHolds_57 (by decide) ?_
          refine W.eq (g2 := F0 m 110 ls [.int (bI true)]) rfl ?_
          exact (OB_some hf) _ _ _ hP hS (lv_sub hl [1, 2] rfl)
  · skip
    refine lv_icmp_ne (tgt := 15) hx hb dX4_factorHolds_8 (by decide) (fun hc => ?_) (fun hc => ?_)
    · have hf := (OB_f hf hc)
      refine lv_aload_n hx hb dX4_factorHolds_15 rfl (lv_at hl 0 rfl) ?_
      refine gfX4_9 hQ0 C hE hP dX4_factorHolds_16 ?_
      refine lv_iload_n hx hb dX4_factorHolds_19 rfl (lv_at hl 1 rfl) ?_
      refine x_iald C hE hP (sh_L1 hQ0) g1 dX4_factorHolds_20 ?_
      refine lv_bipush (v := 101) hx hb dX4_factorHolds_21 (by decide) ?_
      refine lv_icmp_ne (tgt := 30) hx hb dX4_factorHolds_23 (by decide) (fun hc => ?_) (fun hc => ?_)
      · have hf := (OB_f hf hc)
        refine lv_iload hx hb dX4_factorHolds_30 (lv_at hl 4 rfl) ?_
        exact (OB_some hf) _ _ _ hP hS (lv_sub hl [0, 1] rfl)
      · have hf := (OB_t hf hc)
        refine lv_iload_n hx hb dX4_factorHolds_26 rfl (lv_at hl 3 rfl) ?_
        refine lv_goto (tgt := 32) hx hb dX4_factorHolds_27 (by decide) ?_
        exact (OB_some hf) _ _ _ hP hS (lv_sub hl [0, 1] rfl)
    · have hf := (OB_t hf hc)
      refine lv_iload_n hx hb dX4_factorHolds_11 rfl (lv_at hl 2 rfl) ?_
      refine lv_goto (tgt := 32) hx hb dX4_factorHolds_12 (by decide) ?_
      exact (OB_some hf) _ _ _ hP hS (lv_sub hl [0, 1] rfl)
def rm_X4_holds : Room := { frames := 1, cells := 0, slots := 0, locals := 26 }
set_option maxRecDepth 100000 in
set_option maxHeartbeats 8000000 in
theorem c_X4_holds {l : Launch} {G : GG} {Q0 : Nat} {a1 : Int32} {a2 : Int32} {a3 : Int32} {M : Mem} {h : Int64} (hQ0 : isLaw Q0) {P9 : Bool → Prop} (hf : OB (f_X4_holds Q0 a1 a2 a3 M) P9) : Met1 l yX4_holds cX4_holds 6 (some .boolean) rm_X4_holds G [.ref (xa G Q0), .int a1, .int a2, .int a3] M h (QZ0 G M h P9) := by
  unfold f_X4_holds at hf
  refine xm_z0 (by decide) (Nat.le_of_ble_eq_true rfl) ?_
  intro p e s m args below meth c ls Q C hE hret hP hS hl
  have C : CallFix p m c cX4_holds 6 s args TB RX4 := C
  have hx := C.1
  have hb := C.2.1
  have hl : lv_has ls 6 [(0, .ref (xa G Q0)), (1, .int a1), (2, .int a2), (3, .int a3)] := hl
  refine lv_iconst (v := 1) hx hb dX4_holds_0 (by decide) ?_
  refine lv_istore (lv' := [(4, .int 1), (0, .ref (xa G Q0)), (1, .int a1), (2, .int a2), (3, .int a3)]) hx hb dX4_holds_1 hl (by decide) rfl (fun ls hl => ?_)
  refine lv_iconst (v := 0) hx hb dX4_holds_3 (by decide) ?_
  refine lv_istore (lv' := [(5, .int 0), (4, .int 1), (0, .ref (xa G Q0)), (1, .int a1), (2, .int a2), (3, .int a3)]) hx hb dX4_holds_4 hl (by decide) rfl (fun ls hl => ?_)
  refine xj (it_P (fun (x35 : Bool) => ∀ (H : Heap) (locs : List Loc) (ls : Array Slot), va_P G.1 vwCl (wl G M h) H → va_S (Aw G) s.heap H locs → lv_has ls 6 [(4, .int (bI x35))] → W p l e rm_X4_holds s m args below meth c H locs 0 0 Q (F0 m 70 ls [])) P9) hf ?_ (fun hf => ?_)
  · rintro (x35 | v) hf
    · intro H locs ls hP hS hl
      refine lv_iload hx hb dX4_holds_70 (lv_at hl 0 rfl) ?_
      exact hret _ _ _ _ _ (OB_some hf) hP hS dX4_holds_72
    · exact it_q hf
  · refine (it_W (fun (zz : (Bool × Int32)) => match zz with | (x33, x34) => ∀ (H : Heap) (locs : List Loc) (ls : Array Slot), va_P G.1 vwCl (wl G M h) H → va_S (Aw G) s.heap H locs → lv_has ls 6 [(0, .ref (xa G Q0)), (1, .int a1), (2, .int a2), (3, .int a3), (4, .int (bI x33)), (5, .int x34)] → W p l e rm_X4_holds s m args below meth c H locs 0 0 Q (F0 m 6 ls [])) hf ?_) _ _ _ hP hS (lv_sub hl [2, 3, 4, 5, 1, 0] rfl)
    rintro ⟨x33, x34⟩ hf H locs ls hP hS hl
    unfold f_X4_holds_b6 at hf
    refine lv_iload hx hb dX4_holds_6 (lv_at hl 5 rfl) ?_
    refine lv_aload_n hx hb dX4_holds_8 rfl (lv_at hl 0 rfl) ?_
    refine gfX4_30 hQ0 C hE hP dX4_holds_9 ?_
    refine lv_icmp_ge (tgt := 70) hx hb dX4_holds_12 (by decide) (fun hc => ?_) (fun hc => ?_)
    · have hf := (OB_t hf hc)
      exact (it_e hf) _ _ _ hP hS (lv_sub hl [4] rfl)
    · have hf := (OB_f hf hc)
      refine lv_aload_n hx hb dX4_holds_15 rfl (lv_at hl 0 rfl) ?_
      refine gfX4_23 hQ0 C hE hP dX4_holds_16 ?_
      refine lv_iload hx hb dX4_holds_19 (lv_at hl 5 rfl) ?_
      obtain ⟨g36, hf⟩ := OB_g hf
      refine x_zald C hE hP (sh_L5 hQ0) g36 dX4_holds_21 ?_
      have hj40 : ∀ (x37 : Bool) (H : Heap) (locs : List Loc) (ls : Array Slot), OB (f_X4_holds_j40_0 Q0 a1 a2 a3 x34 M x37) (it_P (fun (zz : (Bool × Int32)) => match zz with | (x33, x34) => ∀ (H : Heap) (locs : List Loc) (ls : Array Slot), va_P G.1 vwCl (wl G M h) H → va_S (Aw G) s.heap H locs → lv_has ls 6 [(0, .ref (xa G Q0)), (1, .int a1), (2, .int a2), (3, .int a3), (4, .int (bI x33)), (5, .int x34)] → W p l e rm_X4_holds s m args below meth c H locs 0 0 Q (F0 m 6 ls [])) (it_P (fun (x35 : Bool) => ∀ (H : Heap) (locs : List Loc) (ls : Array Slot), va_P G.1 vwCl (wl G M h) H → va_S (Aw G) s.heap H locs → lv_has ls 6 [(4, .int (bI x35))] → W p l e rm_X4_holds s m args below meth c H locs 0 0 Q (F0 m 70 ls [])) P9)) → va_P G.1 vwCl (wl G M h) H → va_S (Aw G) s.heap H locs → lv_has ls 6 [(0, .ref (xa G Q0)), (1, .int a1), (2, .int a2), (3, .int a3), (4, .int (bI x37)), (5, .int x34)] → W p l e rm_X4_holds s m args below meth c H locs 0 0 Q (F0 m 40 ls []) := by
        intro x37 H locs ls hf hP hS hl
        refine lv_iload hx hb dX4_holds_40 (lv_at hl 4 rfl) ?_
        refine xj (fun (x48 : Bool) => ∀ (H : Heap) (locs : List Loc) (ls : Array Slot), va_P G.1 vwCl (wl G M h) H → va_S (Aw G) s.heap H locs → lv_has ls 6 [(0, .ref (xa G Q0)), (1, .int a1), (2, .int a2), (3, .int a3), (5, .int x34)] → W p l e rm_X4_holds s m args below meth c H locs 0 0 Q (F0 m 62 ls [.int (bI x48)])) hf ?_ (fun hf => ?_)
        · rintro x48 hf H locs ls hP hS hl
          refine lv_istore (lv' := [(4, .int (bI x48)), (0, .ref (xa G Q0)), (1, .int a1), (2, .int a2), (3, .int a3), (5, .int x34)]) hx hb dX4_holds_62 hl (by decide) rfl (fun ls hl => ?_)
          refine lv_iinc (v := (x34 + 1)) (lv' := [(5, .int (x34 + 1)), (4, .int (bI x48)), (0, .ref (xa G Q0)), (1, .int a1), (2, .int a2), (3, .int a3)]) hx hb dX4_holds_64 hl (k := 5) rfl rfl (by decide) rfl (fun ls hl => ?_)
          refine lv_goto (tgt := 6) hx hb dX4_holds_67 (by decide) ?_
          exact (it_c hf) _ _ _ hP hS (lv_sub hl [2, 3, 4, 5, 1, 0] rfl)
        · skip
          refine lv_if_eq (tgt := 61) hx hb dX4_holds_42 (by decide) (fun hc => ?_) (fun hc => ?_)
          · have hf := (OB_f hf (bI_f hc))
            refine lv_iconst (v := 0) hx hb dX4_holds_61 (by decide) ?_
            refine W.eq (g2 := F0 m 62 ls [.int (bI false)]) rfl ?_
            exact (OB_some hf) _ _ _ hP hS (lv_sub hl [0, 1, 2, 3, 5] rfl)
          · have hf := (OB_t hf (bI_t hc))
            refine lv_aload_n hx hb dX4_holds_45 rfl (lv_at hl 0 rfl) ?_
            refine lv_iload hx hb dX4_holds_46 (lv_at hl 5 rfl) ?_
            refine lv_iload_n hx hb dX4_holds_48 rfl (lv_at hl 1 rfl) ?_
            refine lv_iload_n hx hb dX4_holds_49 rfl (lv_at hl 2 rfl) ?_
            refine lv_iload_n hx hb dX4_holds_50 rfl (lv_at hl 3 rfl) ?_
            refine x_cz0 (rest := []) (x_runV C hE hP hS ykX4_factorHolds lkX4_75 (sh_L hQ0) rfl (c_X4_factorHolds hQ0 (OB_bind hf)) (by decide) rfl hl.1 (Nat.le_of_ble_eq_true rfl) dX4_holds_51) hS (fun r49 H locs hf hP hS => ?_)
            refine lv_if_eq (tgt := 61) hx hb dX4_holds_54 (by decide) (fun hc => ?_) (fun hc => ?_)
            · have hf := (OB_f hf (bI_f hc))
              refine lv_iconst (v := 0) hx hb dX4_holds_61 (by decide) ?_
              refine W.eq (g2 := F0 m 62 ls [.int (bI false)]) rfl ?_
              exact (OB_some hf) _ _ _ hP hS (lv_sub hl [0, 1, 2, 3, 5] rfl)
            · have hf := (OB_t hf (bI_t hc))
              refine lv_iconst (v := 1) hx hb dX4_holds_57 (by decide) ?_
              refine lv_goto (tgt := 62) hx hb dX4_holds_58 (by decide) ?_
              refine W.eq (g2 := F0 m 62 ls [.int (bI true)]) rfl ?_
              exact (OB_some hf) _ _ _ hP hS (lv_sub hl [0, 1, 2, 3, 5] rfl)
      refine lv_if_eq (tgt := 40) hx hb dX4_holds_22 (by decide) (fun hc => ?_) (fun hc => ?_)
      · have hf := (OB_t hf hc)
        exact hj40 _ _ _ _ hf hP hS (lv_sub hl [0, 1, 2, 3, 4, 5] rfl)
      · have hf := (OB_f hf hc)
        refine lv_iload hx hb dX4_holds_25 (lv_at hl 5 rfl) ?_
        refine lv_if_le (tgt := 37) hx hb dX4_holds_27 (by decide) (fun hc => ?_) (fun hc => ?_)
        · have hf := (OB_t hf hc)
          refine lv_iconst (v := 1) hx hb dX4_holds_37 (by decide) ?_
          refine lv_istore (lv' := [(4, .int 1), (0, .ref (xa G Q0)), (1, .int a1), (2, .int a2), (3, .int a3), (5, .int x34)]) hx hb dX4_holds_38 hl (by decide) rfl (fun ls hl => ?_)
          exact hj40 _ _ _ _ hf hP hS (lv_sub hl [1, 2, 3, 4, 0, 5] rfl)
        · have hf := (OB_f hf hc)
          refine lv_iload hx hb dX4_holds_30 (lv_at hl 4 rfl) ?_
          refine lv_if_eq (tgt := 37) hx hb dX4_holds_32 (by decide) (fun hc => ?_) (fun hc => ?_)
          · have hf := (OB_f hf (bI_f hc))
            refine lv_iconst (v := 1) hx hb dX4_holds_37 (by decide) ?_
            refine lv_istore (lv' := [(4, .int 1), (0, .ref (xa G Q0)), (1, .int a1), (2, .int a2), (3, .int a3), (5, .int x34)]) hx hb dX4_holds_38 hl (by decide) rfl (fun ls hl => ?_)
            exact hj40 _ _ _ _ hf hP hS (lv_sub hl [1, 2, 3, 4, 0, 5] rfl)
          · have hf := (OB_t hf (bI_t hc))
            refine lv_iconst (v := 1) hx hb dX4_holds_35 (by decide) ?_
            refine W.eq (g2 := F0 m 36 ls [.int (bI true)]) rfl ?_
            exact hret _ _ _ _ _ (it_r hf) hP hS dX4_holds_36
def rm_X3_choose : Room := { frames := 2, cells := 0, slots := 0, locals := 51 }
set_option maxRecDepth 100000 in
set_option maxHeartbeats 8000000 in
theorem c_X3_choose {l : Launch} {G : GG} {P : Nat} {a1 : Int32} {a2 : Int32} {a3 : Int32} {M : Mem} {h : Int64} (hP0 : isHolder P) {P9 : Mem → Prop} (hf : OB (f_X3_choose P a1 a2 a3 M) P9) : Met1 l yX3_choose cX3_choose 6 none rm_X3_choose G [.ref (xa G P), .int a1, .int a2, .int a3] M h (QV1 G h P9) := by
  unfold f_X3_choose at hf
  refine xm_v1 (by decide) (Nat.le_of_ble_eq_true rfl) ?_
  intro p e s m args below meth c ls Q C hE hret hP hS hl
  have C : CallFix p m c cX3_choose 6 s args TB RX3 := C
  have hx := C.1
  have hb := C.2.1
  have hl : lv_has ls 6 [(0, .ref (xa G P)), (1, .int a1), (2, .int a2), (3, .int a3)] := hl
  refine lv_aload_n hx hb dX3_choose_0 rfl (lv_at hl 0 rfl) ?_
  refine gfX3_17 hP0 C hE hP dX3_choose_1 ?_
  refine lv_iconst (v := -1) hx hb dX3_choose_4 (by decide) ?_
  refine x_fill C hE hP hS hl.1 lkX3_30 (sh_H2 hP0) (by decide) (by decide) (Nat.le_of_ble_eq_true rfl) dX3_choose_5 (fun H locs hP hS => ?_)
  refine lv_aload_n hx hb dX3_choose_8 rfl (lv_at hl 0 rfl) ?_
  refine gfX3_22 hP0 C hE hP dX3_choose_9 ?_
  refine lv_iconst (v := 1) hx hb dX3_choose_12 (by decide) ?_
  refine lv_isub hx hb dX3_choose_13 ?_
  refine lv_istore (lv' := [(4, .int (((fil M (P + 2) 4 (-1)) P 2) - 1)), (0, .ref (xa G P)), (1, .int a1), (2, .int a2), (3, .int a3)]) hx hb dX3_choose_14 hl (by decide) rfl (fun ls hl => ?_)
  refine xj (fun (M12 : Mem) => ∀ (H : Heap) (locs : List Loc) (ls : Array Slot), va_P G.1 vwCl (wl G M12 h) H → va_S (Aw G) s.heap H locs → lv_has ls 6 [(0, .ref (xa G P)), (1, .int a1)] → W p l e rm_X3_choose s m args below meth c H locs 0 0 Q (F0 m 76 ls [])) hf ?_ (fun hf => ?_)
  · rintro M12 hf H locs ls hP hS hl
    refine lv_aload_n hx hb dX3_choose_76 rfl (lv_at hl 0 rfl) ?_
    refine lv_iconst (v := -1) hx hb dX3_choose_77 (by decide) ?_
    refine pfX3_46 hP0 C hE hP hS dX3_choose_78 (fun H locs hP hS => ?_)
    refine lv_aload_n hx hb dX3_choose_81 rfl (lv_at hl 0 rfl) ?_
    refine lv_iconst (v := -1) hx hb dX3_choose_82 (by decide) ?_
    refine pfX3_47 hP0 C hE hP hS dX3_choose_83 (fun H locs hP hS => ?_)
    refine lv_iconst (v := 0) hx hb dX3_choose_86 (by decide) ?_
    refine lv_istore (lv' := [(4, .int 0), (0, .ref (xa G P)), (1, .int a1)]) hx hb dX3_choose_87 hl (by decide) rfl (fun ls hl => ?_)
    refine xj (fun (M32 : Mem) => ∀ (H : Heap) (locs : List Loc) (ls : Array Slot), va_P G.1 vwCl (wl G M32 h) H → va_S (Aw G) s.heap H locs → lv_has ls 6 [] → W p l e rm_X3_choose s m args below meth c H locs 0 0 Q (F0 m 173 ls [])) hf ?_ (fun hf => ?_)
    · rintro M32 hf H locs ls hP hS hl
      exact hret _ _ _ _ _ (OB_some hf) hP hS dX3_choose_173
    · refine (it_W (fun (zz : (Int32 × Mem)) => match zz with | (x30, M31) => ∀ (H : Heap) (locs : List Loc) (ls : Array Slot), va_P G.1 vwCl (wl G M31 h) H → va_S (Aw G) s.heap H locs → lv_has ls 6 [(0, .ref (xa G P)), (1, .int a1), (4, .int x30)] → W p l e rm_X3_choose s m args below meth c H locs 0 0 Q (F0 m 89 ls [])) hf ?_) _ _ _ hP hS (lv_sub hl [1, 2, 0] rfl)
      rintro ⟨x30, M31⟩ hf H locs ls hP hS hl
      unfold f_X3_choose_b89 at hf
      refine lv_iload hx hb dX3_choose_89 (lv_at hl 2 rfl) ?_
      refine lv_iconst (v := 4) hx hb dX3_choose_91 (by decide) ?_
      refine lv_icmp_ge (tgt := 173) hx hb dX3_choose_92 (by decide) (fun hc => ?_) (fun hc => ?_)
      · have hf := (OB_t hf hc)
        exact (it_e hf) _ _ _ hP hS (lv_sub hl [] rfl)
      · have hf := (OB_f hf hc)
        refine lv_aload_n hx hb dX3_choose_95 rfl (lv_at hl 0 rfl) ?_
        refine gfX3_17 hP0 C hE hP dX3_choose_96 ?_
        refine lv_iload hx hb dX3_choose_99 (lv_at hl 2 rfl) ?_
        obtain ⟨g33, hf⟩ := OB_g hf
        refine x_iald C hE hP (sh_H2 hP0) g33 dX3_choose_101 ?_
        refine lv_iconst (v := -1) hx hb dX3_choose_102 (by decide) ?_
        refine xj (fun (x34 : Bool) => ∀ (H : Heap) (locs : List Loc) (ls : Array Slot), va_P G.1 vwCl (wl G M31 h) H → va_S (Aw G) s.heap H locs → lv_has ls 6 [(0, .ref (xa G P)), (1, .int a1), (4, .int x30)] → W p l e rm_X3_choose s m args below meth c H locs 0 0 Q (F0 m 121 ls [.int (bI x34)])) hf ?_ (fun hf => ?_)
        · rintro x34 hf H locs ls hP hS hl
          refine lv_istore (lv' := [(5, .int (bI x34)), (0, .ref (xa G P)), (1, .int a1), (4, .int x30)]) hx hb dX3_choose_121 hl (by decide) rfl (fun ls hl => ?_)
          refine lv_iload hx hb dX3_choose_123 (lv_at hl 0 rfl) ?_
          refine xj (fun (M35 : Mem) => ∀ (H : Heap) (locs : List Loc) (ls : Array Slot), va_P G.1 vwCl (wl G M35 h) H → va_S (Aw G) s.heap H locs → lv_has ls 6 [(0, .ref (xa G P)), (1, .int a1), (4, .int x30)] → W p l e rm_X3_choose s m args below meth c H locs 0 0 Q (F0 m 167 ls [])) hf ?_ (fun hf => ?_)
          · rintro M35 hf H locs ls hP hS hl
            refine lv_iinc (v := (x30 + 1)) (lv' := [(4, .int (x30 + 1)), (0, .ref (xa G P)), (1, .int a1)]) hx hb dX3_choose_167 hl (k := 2) rfl rfl (by decide) rfl (fun ls hl => ?_)
            refine lv_goto (tgt := 89) hx hb dX3_choose_170 (by decide) ?_
            exact (it_c hf) _ _ _ hP hS (lv_sub hl [1, 2, 0] rfl)
          · skip
            refine lv_if_eq (tgt := 167) hx hb dX3_choose_125 (by decide) (fun hc => ?_) (fun hc => ?_)
            · have hf := (OB_f hf (bI_f hc))
              exact (OB_some hf) _ _ _ hP hS (lv_sub hl [1, 2, 3] rfl)
            · have hf := (OB_t hf (bI_t hc))
              refine lv_aload_n hx hb dX3_choose_128 rfl (lv_at hl 1 rfl) ?_
              refine gfX3_46 hP0 C hE hP dX3_choose_129 ?_
              refine lv_iconst (v := -1) hx hb dX3_choose_132 (by decide) ?_
              have hj150 : ∀ (H : Heap) (locs : List Loc) (ls : Array Slot), OB (f_X3_choose_j150_1 P x30 M31) (fun (M35 : Mem) => ∀ (H : Heap) (locs : List Loc) (ls : Array Slot), va_P G.1 vwCl (wl G M35 h) H → va_S (Aw G) s.heap H locs → lv_has ls 6 [(0, .ref (xa G P)), (1, .int a1), (4, .int x30)] → W p l e rm_X3_choose s m args below meth c H locs 0 0 Q (F0 m 167 ls [])) → va_P G.1 vwCl (wl G M31 h) H → va_S (Aw G) s.heap H locs → lv_has ls 6 [(0, .ref (xa G P)), (1, .int a1), (4, .int x30)] → W p l e rm_X3_choose s m args below meth c H locs 0 0 Q (F0 m 150 ls []) := by
                intro  H locs ls hf hP hS hl
                refine lv_aload_n hx hb dX3_choose_150 rfl (lv_at hl 0 rfl) ?_
                refine lv_aload_n hx hb dX3_choose_151 rfl (lv_at hl 0 rfl) ?_
                refine gfX3_17 hP0 C hE hP dX3_choose_152 ?_
                refine lv_iload hx hb dX3_choose_155 (lv_at hl 2 rfl) ?_
                refine x_iald C hE hP (sh_H2 hP0) g33 dX3_choose_157 ?_
                refine pfX3_46 hP0 C hE hP hS dX3_choose_158 (fun H locs hP hS => ?_)
                refine lv_aload_n hx hb dX3_choose_161 rfl (lv_at hl 0 rfl) ?_
                refine lv_iload hx hb dX3_choose_162 (lv_at hl 2 rfl) ?_
                refine pfX3_47 hP0 C hE hP hS dX3_choose_164 (fun H locs hP hS => ?_)
                exact (OB_some hf) _ _ _ hP hS (lv_sub hl [0, 1, 2] rfl)
              refine lv_icmp_eq (tgt := 150) hx hb dX3_choose_133 (by decide) (fun hc => ?_) (fun hc => ?_)
              · have hf := (OB_t hf hc)
                exact hj150  _ _ _ hf hP hS (lv_sub hl [1, 2, 3] rfl)
              · have hf := (OB_f hf hc)
                refine lv_aload_n hx hb dX3_choose_136 rfl (lv_at hl 1 rfl) ?_
                refine gfX3_17 hP0 C hE hP dX3_choose_137 ?_
                refine lv_iload hx hb dX3_choose_140 (lv_at hl 3 rfl) ?_
                refine x_iald C hE hP (sh_H2 hP0) g33 dX3_choose_142 ?_
                refine lv_aload_n hx hb dX3_choose_143 rfl (lv_at hl 1 rfl) ?_
                refine gfX3_46 hP0 C hE hP dX3_choose_144 ?_
                refine lv_icmp_ge (tgt := 167) hx hb dX3_choose_147 (by decide) (fun hc => ?_) (fun hc => ?_)
                · have hf := (OB_t hf hc)
                  exact (OB_some hf) _ _ _ hP hS (lv_sub hl [1, 2, 3] rfl)
                · have hf := (OB_f hf hc)
                  exact hj150  _ _ _ hf hP hS (lv_sub hl [1, 2, 3] rfl)
        · skip
          refine lv_icmp_eq (tgt := 120) hx hb dX3_choose_103 (by decide) (fun hc => ?_) (fun hc => ?_)
          · have hf := (OB_t hf hc)
            refine lv_iconst (v := 0) hx hb dX3_choose_120 (by decide) ?_
            refine W.eq (g2 := F0 m 121 ls [.int (bI false)]) rfl ?_
            exact (OB_some hf) _ _ _ hP hS (lv_sub hl [0, 1, 2] rfl)
          · have hf := (OB_f hf hc)
            refine lv_iload hx hb dX3_choose_106 (lv_at hl 2 rfl) ?_
            refine lv_if_ne (tgt := 116) hx hb dX3_choose_108 (by decide) (fun hc => ?_) (fun hc => ?_)
            · have hf := (OB_f hf hc)
              refine lv_iconst (v := 1) hx hb dX3_choose_116 (by decide) ?_
              refine lv_goto (tgt := 121) hx hb dX3_choose_117 (by decide) ?_
              refine W.eq (g2 := F0 m 121 ls [.int (bI true)]) rfl ?_
              exact (OB_some hf) _ _ _ hP hS (lv_sub hl [0, 1, 2] rfl)
            · have hf := (OB_t hf hc)
              refine lv_iload_n hx hb dX3_choose_111 rfl (lv_at hl 1 rfl) ?_
              refine lv_iconst (v := 1) hx hb dX3_choose_112 (by decide) ?_
              refine lv_icmp_ne (tgt := 120) hx hb dX3_choose_113 (by decide) (fun hc => ?_) (fun hc => ?_)
              · have hf := (OB_f hf hc)
                refine lv_iconst (v := 0) hx hb dX3_choose_120 (by decide) ?_
                refine W.eq (g2 := F0 m 121 ls [.int (bI false)]) rfl ?_
                exact (OB_some hf) _ _ _ hP hS (lv_sub hl [0, 1, 2] rfl)
              · have hf := (OB_t hf hc)
                refine lv_iconst (v := 1) hx hb dX3_choose_116 (by decide) ?_
                refine lv_goto (tgt := 121) hx hb dX3_choose_117 (by decide) ?_
                refine W.eq (g2 := F0 m 121 ls [.int (bI true)]) rfl ?_
                exact (OB_some hf) _ _ _ hP hS (lv_sub hl [0, 1, 2] rfl)
  · refine (it_W (fun (zz : (Int32 × Mem)) => match zz with | (x10, M11) => ∀ (H : Heap) (locs : List Loc) (ls : Array Slot), va_P G.1 vwCl (wl G M11 h) H → va_S (Aw G) s.heap H locs → lv_has ls 6 [(0, .ref (xa G P)), (1, .int a1), (2, .int a2), (3, .int a3), (4, .int x10)] → W p l e rm_X3_choose s m args below meth c H locs 0 0 Q (F0 m 16 ls [])) hf ?_) _ _ _ hP hS (lv_sub hl [1, 2, 3, 4, 0] rfl)
    rintro ⟨x10, M11⟩ hf H locs ls hP hS hl
    unfold f_X3_choose_b16 at hf
    refine lv_iload hx hb dX3_choose_16 (lv_at hl 4 rfl) ?_
    refine lv_if_lt (tgt := 76) hx hb dX3_choose_18 (by decide) (fun hc => ?_) (fun hc => ?_)
    · have hf := (OB_t hf hc)
      exact (it_e hf) _ _ _ hP hS (lv_sub hl [0, 1] rfl)
    · have hf := (OB_f hf hc)
      refine lv_aload_n hx hb dX3_choose_21 rfl (lv_at hl 0 rfl) ?_
      refine gfX3_13 hP0 C hE hP dX3_choose_22 ?_
      refine lv_iload hx hb dX3_choose_25 (lv_at hl 4 rfl) ?_
      obtain ⟨g13, hf⟩ := OB_g hf
      refine x_aald C hE hP (sh_H1 hP0) g13 dX3_choose_27 ?_
      have hQ14 := law_ok (i := x10) hP0 g13
      refine lv_astore (lv' := [(5, .ref (xa G (P + 3 + 6 * Int32.toNatClampNeg x10))), (0, .ref (xa G P)), (1, .int a1), (2, .int a2), (3, .int a3), (4, .int x10)]) hx hb dX3_choose_28 hl (by decide) rfl (fun ls hl => ?_)
      refine lv_aload_n hx hb dX3_choose_30 rfl (lv_at hl 1 rfl) ?_
      refine gfX3_17 hP0 C hE hP dX3_choose_31 ?_
      refine lv_aload hx hb dX3_choose_34 (lv_at hl 0 rfl) ?_
      refine gfX3_36 hQ14 C hE hP dX3_choose_36 ?_
      obtain ⟨g15, hf⟩ := OB_g hf
      refine x_iald C hE hP (sh_H2 hP0) g15 dX3_choose_39 ?_
      refine lv_iconst (v := -1) hx hb dX3_choose_40 (by decide) ?_
      refine xj (fun (M18 : Mem) => ∀ (H : Heap) (locs : List Loc) (ls : Array Slot), va_P G.1 vwCl (wl G M18 h) H → va_S (Aw G) s.heap H locs → lv_has ls 6 [(0, .ref (xa G P)), (1, .int a1), (2, .int a2), (3, .int a3), (4, .int x10)] → W p l e rm_X3_choose s m args below meth c H locs 0 0 Q (F0 m 70 ls [])) hf ?_ (fun hf => ?_)
      · rintro M18 hf H locs ls hP hS hl
        refine lv_iinc (v := (x10 + (-1))) (lv' := [(4, .int (x10 + (-1))), (0, .ref (xa G P)), (1, .int a1), (2, .int a2), (3, .int a3)]) hx hb dX3_choose_70 hl (k := 4) rfl rfl (by decide) rfl (fun ls hl => ?_)
        refine lv_goto (tgt := 16) hx hb dX3_choose_73 (by decide) ?_
        exact (it_c hf) _ _ _ hP hS (lv_sub hl [1, 2, 3, 4, 0] rfl)
      · skip
        refine lv_icmp_ne (tgt := 70) hx hb dX3_choose_41 (by decide) (fun hc => ?_) (fun hc => ?_)
        · have hf := (OB_f hf hc)
          exact (OB_some hf) _ _ _ hP hS (lv_sub hl [1, 2, 3, 4, 5] rfl)
        · have hf := (OB_t hf hc)
          refine lv_aload hx hb dX3_choose_44 (lv_at hl 0 rfl) ?_
          refine lv_iload_n hx hb dX3_choose_46 rfl (lv_at hl 2 rfl) ?_
          refine lv_iload_n hx hb dX3_choose_47 rfl (lv_at hl 3 rfl) ?_
          refine lv_iload_n hx hb dX3_choose_48 rfl (lv_at hl 4 rfl) ?_
          refine x_cz0 (rest := []) (x_runV C hE hP hS ykX4_holds lkX3_39 (sh_L hQ14) rfl (c_X4_holds hQ14 (OB_bind hf)) (by decide) rfl hl.1 (Nat.le_of_ble_eq_true rfl) dX3_choose_49) hS (fun r19 H locs hf hP hS => ?_)
          refine lv_if_eq (tgt := 70) hx hb dX3_choose_52 (by decide) (fun hc => ?_) (fun hc => ?_)
          · have hf := (OB_f hf (bI_f hc))
            exact (OB_some hf) _ _ _ hP hS (lv_sub hl [1, 2, 3, 4, 5] rfl)
          · have hf := (OB_t hf (bI_t hc))
            refine lv_aload_n hx hb dX3_choose_55 rfl (lv_at hl 1 rfl) ?_
            refine gfX3_17 hP0 C hE hP dX3_choose_56 ?_
            refine lv_aload hx hb dX3_choose_59 (lv_at hl 0 rfl) ?_
            refine gfX3_36 hQ14 C hE hP dX3_choose_61 ?_
            refine lv_aload hx hb dX3_choose_64 (lv_at hl 0 rfl) ?_
            refine gfX3_43 hQ14 C hE hP dX3_choose_66 ?_
            refine x_iast C hE hP hS (sh_H2 hP0) g15 dX3_choose_69 (fun H locs hP hS => ?_)
            exact (OB_some hf) _ _ _ hP hS (lv_sub hl [1, 2, 3, 4, 5] rfl)
def rm_X5_size : Room := { frames := 0, cells := 0, slots := 0, locals := 0 }
set_option maxRecDepth 100000 in
set_option maxHeartbeats 8000000 in
theorem c_X5_size {l : Launch} {G : GG}  {M : Mem} {h : Int64}  {P9 : Int32 → Prop} (hf : OB (f_X5_size M) P9) : Met1 l yX5_size cX5_size 1 (some .int) rm_X5_size G [.ref (xa G 5)] M h (QI0 G M h P9) := by
  unfold f_X5_size at hf
  refine xm_i0 (by decide) (Nat.le_of_ble_eq_true rfl) ?_
  intro p e s m args below meth c ls Q C hE hret hP hS hl
  have C : CallFix p m c cX5_size 1 s args TB RX5 := C
  have hx := C.1
  have hb := C.2.1
  have hl : lv_has ls 1 [(0, .ref (xa G 5))] := hl
  refine lv_aload_n hx hb dX5_size_0 rfl (lv_at hl 0 rfl) ?_
  refine gfX5_25 C hE hP dX5_size_1 ?_
  exact hret _ _ _ _ _ (OB_some hf) hP hS dX5_size_4
def rm_X5_isFull : Room := { frames := 0, cells := 0, slots := 0, locals := 0 }
set_option maxRecDepth 100000 in
set_option maxHeartbeats 8000000 in
theorem c_X5_isFull {l : Launch} {G : GG}  {M : Mem} {h : Int64}  {P9 : Bool → Prop} (hf : OB (f_X5_isFull M) P9) : Met1 l yX5_isFull cX5_isFull 1 (some .boolean) rm_X5_isFull G [.ref (xa G 5)] M h (QZ0 G M h P9) := by
  unfold f_X5_isFull at hf
  refine xm_z0 (by decide) (Nat.le_of_ble_eq_true rfl) ?_
  intro p e s m args below meth c ls Q C hE hret hP hS hl
  have C : CallFix p m c cX5_isFull 1 s args TB RX5 := C
  have hx := C.1
  have hb := C.2.1
  have hl : lv_has ls 1 [(0, .ref (xa G 5))] := hl
  refine lv_aload_n hx hb dX5_isFull_0 rfl (lv_at hl 0 rfl) ?_
  refine gfX5_25 C hE hP dX5_isFull_1 ?_
  refine lv_bipush (v := 40) hx hb dX5_isFull_4 (by decide) ?_
  refine xj (fun (x1 : Bool) => ∀ (H : Heap) (locs : List Loc) (ls : Array Slot), va_P G.1 vwCl (wl G M h) H → va_S (Aw G) s.heap H locs → lv_has ls 1 [] → W p l e rm_X5_isFull s m args below meth c H locs 0 0 Q (F0 m 14 ls [.int (bI x1)])) hf ?_ (fun hf => ?_)
  · rintro x1 hf H locs ls hP hS hl
    exact hret _ _ _ _ _ (OB_some hf) hP hS dX5_isFull_14
  · skip
    refine lv_icmp_lt (tgt := 13) hx hb dX5_isFull_6 (by decide) (fun hc => ?_) (fun hc => ?_)
    · have hf := (OB_t hf hc)
      refine lv_iconst (v := 0) hx hb dX5_isFull_13 (by decide) ?_
      refine W.eq (g2 := F0 m 14 ls [.int (bI false)]) rfl ?_
      exact (OB_some hf) _ _ _ hP hS (lv_sub hl [] rfl)
    · have hf := (OB_f hf hc)
      refine lv_iconst (v := 1) hx hb dX5_isFull_9 (by decide) ?_
      refine lv_goto (tgt := 14) hx hb dX5_isFull_10 (by decide) ?_
      refine W.eq (g2 := F0 m 14 ls [.int (bI true)]) rfl ?_
      exact (OB_some hf) _ _ _ hP hS (lv_sub hl [] rfl)
def rm_X5_add : Room := { frames := 0, cells := 0, slots := 0, locals := 0 }
set_option maxRecDepth 100000 in
set_option maxHeartbeats 8000000 in
theorem c_X5_add {l : Launch} {G : GG} {a1 : Int32} {a2 : Int32} {a3 : Int32} {M : Mem} {h : Int64}  {P9 : (Int32 × Mem) → Prop} (hf : OB (f_X5_add a1 a2 a3 M) P9) : Met1 l yX5_add cX5_add 4 (some .int) rm_X5_add G [.ref (xa G 5), .int a1, .int a2, .int a3] M h (QI1 G h P9) := by
  unfold f_X5_add at hf
  refine xm_i1 (by decide) (Nat.le_of_ble_eq_true rfl) ?_
  intro p e s m args below meth c ls Q C hE hret hP hS hl
  have C : CallFix p m c cX5_add 4 s args TB RX5 := C
  have hx := C.1
  have hb := C.2.1
  have hl : lv_has ls 4 [(0, .ref (xa G 5)), (1, .int a1), (2, .int a2), (3, .int a3)] := hl
  refine lv_aload_n hx hb dX5_add_0 rfl (lv_at hl 0 rfl) ?_
  refine gfX5_11 C hE hP dX5_add_1 ?_
  refine lv_aload_n hx hb dX5_add_4 rfl (lv_at hl 0 rfl) ?_
  refine gfX5_25 C hE hP dX5_add_5 ?_
  refine lv_iload_n hx hb dX5_add_8 rfl (lv_at hl 1 rfl) ?_
  obtain ⟨g1, hf⟩ := OB_g hf
  refine x_iast C hE hP hS sh6 g1 dX5_add_9 (fun H locs hP hS => ?_)
  refine lv_aload_n hx hb dX5_add_10 rfl (lv_at hl 0 rfl) ?_
  refine gfX5_15 C hE hP dX5_add_11 ?_
  refine lv_aload_n hx hb dX5_add_14 rfl (lv_at hl 0 rfl) ?_
  refine gfX5_25 C hE hP dX5_add_15 ?_
  refine lv_iload_n hx hb dX5_add_18 rfl (lv_at hl 2 rfl) ?_
  obtain ⟨g2, hf⟩ := OB_g hf
  refine x_iast C hE hP hS sh7 g2 dX5_add_19 (fun H locs hP hS => ?_)
  refine lv_aload_n hx hb dX5_add_20 rfl (lv_at hl 0 rfl) ?_
  refine gfX5_18 C hE hP dX5_add_21 ?_
  refine lv_aload_n hx hb dX5_add_24 rfl (lv_at hl 0 rfl) ?_
  refine gfX5_25 C hE hP dX5_add_25 ?_
  refine lv_iload_n hx hb dX5_add_28 rfl (lv_at hl 3 rfl) ?_
  obtain ⟨g3, hf⟩ := OB_g hf
  refine x_iast C hE hP hS sh8 g3 dX5_add_29 (fun H locs hP hS => ?_)
  refine lv_aload_n hx hb dX5_add_30 rfl (lv_at hl 0 rfl) ?_
  refine lv_dup hx hb dX5_add_31 rfl ?_
  refine gfX5_25 C hE hP dX5_add_32 ?_
  refine lv_iconst (v := 1) hx hb dX5_add_35 (by decide) ?_
  refine lv_iadd hx hb dX5_add_36 ?_
  refine pfX5_25 C hE hP hS dX5_add_37 (fun H locs hP hS => ?_)
  refine lv_aload_n hx hb dX5_add_40 rfl (lv_at hl 0 rfl) ?_
  refine gfX5_25 C hE hP dX5_add_41 ?_
  refine lv_iconst (v := 1) hx hb dX5_add_44 (by decide) ?_
  refine lv_isub hx hb dX5_add_45 ?_
  exact hret _ _ _ _ _ _ (OB_some hf) hP hS dX5_add_46
def rm_X5_removeLast : Room := { frames := 0, cells := 0, slots := 0, locals := 0 }
set_option maxRecDepth 100000 in
set_option maxHeartbeats 8000000 in
theorem c_X5_removeLast {l : Launch} {G : GG}  {M : Mem} {h : Int64}  {P9 : (Int32 × Mem) → Prop} (hf : OB (f_X5_removeLast M) P9) : Met1 l yX5_removeLast cX5_removeLast 1 (some .int) rm_X5_removeLast G [.ref (xa G 5)] M h (QI1 G h P9) := by
  unfold f_X5_removeLast at hf
  refine xm_i1 (by decide) (Nat.le_of_ble_eq_true rfl) ?_
  intro p e s m args below meth c ls Q C hE hret hP hS hl
  have C : CallFix p m c cX5_removeLast 1 s args TB RX5 := C
  have hx := C.1
  have hb := C.2.1
  have hl : lv_has ls 1 [(0, .ref (xa G 5))] := hl
  refine lv_aload_n hx hb dX5_removeLast_0 rfl (lv_at hl 0 rfl) ?_
  refine lv_dup hx hb dX5_removeLast_1 rfl ?_
  refine gfX5_25 C hE hP dX5_removeLast_2 ?_
  refine lv_iconst (v := 1) hx hb dX5_removeLast_5 (by decide) ?_
  refine lv_isub hx hb dX5_removeLast_6 ?_
  refine pfX5_25 C hE hP hS dX5_removeLast_7 (fun H locs hP hS => ?_)
  refine lv_aload_n hx hb dX5_removeLast_10 rfl (lv_at hl 0 rfl) ?_
  refine gfX5_25 C hE hP dX5_removeLast_11 ?_
  exact hret _ _ _ _ _ _ (OB_some hf) hP hS dX5_removeLast_14
def rm_X5_kindOf : Room := { frames := 0, cells := 0, slots := 0, locals := 0 }
set_option maxRecDepth 100000 in
set_option maxHeartbeats 8000000 in
theorem c_X5_kindOf {l : Launch} {G : GG} {a1 : Int32} {M : Mem} {h : Int64}  {P9 : Int32 → Prop} (hf : OB (f_X5_kindOf a1 M) P9) : Met1 l yX5_kindOf cX5_kindOf 2 (some .int) rm_X5_kindOf G [.ref (xa G 5), .int a1] M h (QI0 G M h P9) := by
  unfold f_X5_kindOf at hf
  refine xm_i0 (by decide) (Nat.le_of_ble_eq_true rfl) ?_
  intro p e s m args below meth c ls Q C hE hret hP hS hl
  have C : CallFix p m c cX5_kindOf 2 s args TB RX5 := C
  have hx := C.1
  have hb := C.2.1
  have hl : lv_has ls 2 [(0, .ref (xa G 5)), (1, .int a1)] := hl
  refine lv_aload_n hx hb dX5_kindOf_0 rfl (lv_at hl 0 rfl) ?_
  refine gfX5_11 C hE hP dX5_kindOf_1 ?_
  refine lv_iload_n hx hb dX5_kindOf_4 rfl (lv_at hl 1 rfl) ?_
  obtain ⟨g1, hf⟩ := OB_g hf
  refine x_iald C hE hP sh6 g1 dX5_kindOf_5 ?_
  exact hret _ _ _ _ _ (OB_some hf) hP hS dX5_kindOf_6
def rm_X5_cellOf : Room := { frames := 0, cells := 0, slots := 0, locals := 0 }
set_option maxRecDepth 100000 in
set_option maxHeartbeats 8000000 in
theorem c_X5_cellOf {l : Launch} {G : GG} {a1 : Int32} {M : Mem} {h : Int64}  {P9 : Int32 → Prop} (hf : OB (f_X5_cellOf a1 M) P9) : Met1 l yX5_cellOf cX5_cellOf 2 (some .int) rm_X5_cellOf G [.ref (xa G 5), .int a1] M h (QI0 G M h P9) := by
  unfold f_X5_cellOf at hf
  refine xm_i0 (by decide) (Nat.le_of_ble_eq_true rfl) ?_
  intro p e s m args below meth c ls Q C hE hret hP hS hl
  have C : CallFix p m c cX5_cellOf 2 s args TB RX5 := C
  have hx := C.1
  have hb := C.2.1
  have hl : lv_has ls 2 [(0, .ref (xa G 5)), (1, .int a1)] := hl
  refine lv_aload_n hx hb dX5_cellOf_0 rfl (lv_at hl 0 rfl) ?_
  refine gfX5_15 C hE hP dX5_cellOf_1 ?_
  refine lv_iload_n hx hb dX5_cellOf_4 rfl (lv_at hl 1 rfl) ?_
  obtain ⟨g1, hf⟩ := OB_g hf
  refine x_iald C hE hP sh7 g1 dX5_cellOf_5 ?_
  exact hret _ _ _ _ _ (OB_some hf) hP hS dX5_cellOf_6
def rm_X5_numberOf : Room := { frames := 0, cells := 0, slots := 0, locals := 0 }
set_option maxRecDepth 100000 in
set_option maxHeartbeats 8000000 in
theorem c_X5_numberOf {l : Launch} {G : GG} {a1 : Int32} {M : Mem} {h : Int64}  {P9 : Int32 → Prop} (hf : OB (f_X5_numberOf a1 M) P9) : Met1 l yX5_numberOf cX5_numberOf 2 (some .int) rm_X5_numberOf G [.ref (xa G 5), .int a1] M h (QI0 G M h P9) := by
  unfold f_X5_numberOf at hf
  refine xm_i0 (by decide) (Nat.le_of_ble_eq_true rfl) ?_
  intro p e s m args below meth c ls Q C hE hret hP hS hl
  have C : CallFix p m c cX5_numberOf 2 s args TB RX5 := C
  have hx := C.1
  have hb := C.2.1
  have hl : lv_has ls 2 [(0, .ref (xa G 5)), (1, .int a1)] := hl
  refine lv_aload_n hx hb dX5_numberOf_0 rfl (lv_at hl 0 rfl) ?_
  refine gfX5_18 C hE hP dX5_numberOf_1 ?_
  refine lv_iload_n hx hb dX5_numberOf_4 rfl (lv_at hl 1 rfl) ?_
  obtain ⟨g1, hf⟩ := OB_g hf
  refine x_iald C hE hP sh8 g1 dX5_numberOf_5 ?_
  exact hret _ _ _ _ _ (OB_some hf) hP hS dX5_numberOf_6
def rm_X5_weightOf : Room := { frames := 0, cells := 0, slots := 0, locals := 0 }
set_option maxRecDepth 100000 in
set_option maxHeartbeats 8000000 in
theorem c_X5_weightOf {l : Launch} {G : GG} {a1 : Int32} {M : Mem} {h : Int64}  {P9 : Int32 → Prop} (hf : OB (f_X5_weightOf a1 M) P9) : Met1 l yX5_weightOf cX5_weightOf 2 (some .int) rm_X5_weightOf G [.ref (xa G 5), .int a1] M h (QI0 G M h P9) := by
  unfold f_X5_weightOf at hf
  refine xm_i0 (by decide) (Nat.le_of_ble_eq_true rfl) ?_
  intro p e s m args below meth c ls Q C hE hret hP hS hl
  have C : CallFix p m c cX5_weightOf 2 s args TB RX5 := C
  have hx := C.1
  have hb := C.2.1
  have hl : lv_has ls 2 [(0, .ref (xa G 5)), (1, .int a1)] := hl
  refine x_gwt C hE hS wt_link dX5_weightOf_0 ?_
  refine lv_aload_n hx hb dX5_weightOf_3 rfl (lv_at hl 0 rfl) ?_
  refine gfX5_11 C hE hP dX5_weightOf_4 ?_
  refine lv_iload_n hx hb dX5_weightOf_7 rfl (lv_at hl 1 rfl) ?_
  obtain ⟨g1, hf⟩ := OB_g hf
  refine x_iald C hE hP sh6 g1 dX5_weightOf_8 ?_
  obtain ⟨g2, hf⟩ := OB_g hf
  refine x_wt C hE hS g2 dX5_weightOf_9 ?_
  exact hret _ _ _ _ _ (OB_some hf) hP hS dX5_weightOf_10
def rm_X5_landOf : Room := { frames := 1, cells := 0, slots := 0, locals := 21 }
set_option maxRecDepth 100000 in
set_option maxHeartbeats 8000000 in
theorem c_X5_landOf {l : Launch} {G : GG} {a1 : Int32} {M : Mem} {h : Int64}  {P9 : Int32 → Prop} (hf : OB (f_X5_landOf a1 M) P9) : Met1 l yX5_landOf cX5_landOf 2 (some .int) rm_X5_landOf G [.ref (xa G 5), .int a1] M h (QI0 G M h P9) := by
  unfold f_X5_landOf at hf
  refine xm_i0 (by decide) (Nat.le_of_ble_eq_true rfl) ?_
  intro p e s m args below meth c ls Q C hE hret hP hS hl
  have C : CallFix p m c cX5_landOf 2 s args TB RX5 := C
  have hx := C.1
  have hb := C.2.1
  have hl : lv_has ls 2 [(0, .ref (xa G 5)), (1, .int a1)] := hl
  refine lv_aload_n hx hb dX5_landOf_0 rfl (lv_at hl 0 rfl) ?_
  refine gfX5_21 C hE hP dX5_landOf_1 ?_
  refine lv_aload_n hx hb dX5_landOf_4 rfl (lv_at hl 0 rfl) ?_
  refine gfX5_15 C hE hP dX5_landOf_5 ?_
  refine lv_iload_n hx hb dX5_landOf_8 rfl (lv_at hl 1 rfl) ?_
  obtain ⟨g1, hf⟩ := OB_g hf
  refine x_iald C hE hP sh7 g1 dX5_landOf_9 ?_
  refine x_ci0 (rest := []) (x_runV C hE hP hS ykX2_ownerOf lkX5_32 sh1 rfl (c_X2_ownerOf (OB_bind hf)) (by decide) rfl hl.1 (Nat.le_of_ble_eq_true rfl) dX5_landOf_10) hS (fun r2 H locs hf hP hS => ?_)
  exact hret _ _ _ _ _ (OB_some hf) hP hS dX5_landOf_13
def rm_X5_isNeedle : Room := { frames := 0, cells := 0, slots := 0, locals := 0 }
set_option maxRecDepth 100000 in
set_option maxHeartbeats 8000000 in
theorem c_X5_isNeedle {l : Launch} {G : GG} {a1 : Int32} {M : Mem} {h : Int64}  {P9 : Bool → Prop} (hf : OB (f_X5_isNeedle a1 M) P9) : Met1 l yX5_isNeedle cX5_isNeedle 2 (some .boolean) rm_X5_isNeedle G [.ref (xa G 5), .int a1] M h (QZ0 G M h P9) := by
  unfold f_X5_isNeedle at hf
  refine xm_z0 (by decide) (Nat.le_of_ble_eq_true rfl) ?_
  intro p e s m args below meth c ls Q C hE hret hP hS hl
  have C : CallFix p m c cX5_isNeedle 2 s args TB RX5 := C
  have hx := C.1
  have hb := C.2.1
  have hl : lv_has ls 2 [(0, .ref (xa G 5)), (1, .int a1)] := hl
  refine lv_aload_n hx hb dX5_isNeedle_0 rfl (lv_at hl 0 rfl) ?_
  refine gfX5_11 C hE hP dX5_isNeedle_1 ?_
  refine lv_iload_n hx hb dX5_isNeedle_4 rfl (lv_at hl 1 rfl) ?_
  obtain ⟨g1, hf⟩ := OB_g hf
  refine x_iald C hE hP sh6 g1 dX5_isNeedle_5 ?_
  refine lv_iconst (v := 4) hx hb dX5_isNeedle_6 (by decide) ?_
  refine xj (fun (x2 : Bool) => ∀ (H : Heap) (locs : List Loc) (ls : Array Slot), va_P G.1 vwCl (wl G M h) H → va_S (Aw G) s.heap H locs → lv_has ls 2 [] → W p l e rm_X5_isNeedle s m args below meth c H locs 0 0 Q (F0 m 15 ls [.int (bI x2)])) hf ?_ (fun hf => ?_)
  · rintro x2 hf H locs ls hP hS hl
    exact hret _ _ _ _ _ (OB_some hf) hP hS dX5_isNeedle_15
  · skip
    refine lv_icmp_ne (tgt := 14) hx hb dX5_isNeedle_7 (by decide) (fun hc => ?_) (fun hc => ?_)
    · have hf := (OB_f hf hc)
      refine lv_iconst (v := 0) hx hb dX5_isNeedle_14 (by decide) ?_
      refine W.eq (g2 := F0 m 15 ls [.int (bI false)]) rfl ?_
      exact (OB_some hf) _ _ _ hP hS (lv_sub hl [] rfl)
    · have hf := (OB_t hf hc)
      refine lv_iconst (v := 1) hx hb dX5_isNeedle_10 (by decide) ?_
      refine lv_goto (tgt := 15) hx hb dX5_isNeedle_11 (by decide) ?_
      refine W.eq (g2 := F0 m 15 ls [.int (bI true)]) rfl ?_
      exact (OB_some hf) _ _ _ hP hS (lv_sub hl [] rfl)
def rm_X5_isOf : Room := { frames := 0, cells := 0, slots := 0, locals := 0 }
set_option maxRecDepth 100000 in
set_option maxHeartbeats 8000000 in
theorem c_X5_isOf {l : Launch} {G : GG} {a1 : Int32} {a2 : Int32} {M : Mem} {h : Int64}  {P9 : Bool → Prop} (hf : OB (f_X5_isOf a1 a2 M) P9) : Met1 l yX5_isOf cX5_isOf 3 (some .boolean) rm_X5_isOf G [.ref (xa G 5), .int a1, .int a2] M h (QZ0 G M h P9) := by
  unfold f_X5_isOf at hf
  refine xm_z0 (by decide) (Nat.le_of_ble_eq_true rfl) ?_
  intro p e s m args below meth c ls Q C hE hret hP hS hl
  have C : CallFix p m c cX5_isOf 3 s args TB RX5 := C
  have hx := C.1
  have hb := C.2.1
  have hl : lv_has ls 3 [(0, .ref (xa G 5)), (1, .int a1), (2, .int a2)] := hl
  refine lv_iload_n hx hb dX5_isOf_0 rfl (lv_at hl 2 rfl) ?_
  refine xj (fun (x3 : Bool) => ∀ (H : Heap) (locs : List Loc) (ls : Array Slot), va_P G.1 vwCl (wl G M h) H → va_S (Aw G) s.heap H locs → lv_has ls 3 [] → W p l e rm_X5_isOf s m args below meth c H locs 0 0 Q (F0 m 34 ls [.int (bI x3)])) hf ?_ (fun hf => ?_)
  · rintro x3 hf H locs ls hP hS hl
    exact hret _ _ _ _ _ (OB_some hf) hP hS dX5_isOf_34
  · skip
    refine lv_if_eq (tgt := 29) hx hb dX5_isOf_1 (by decide) (fun hc => ?_) (fun hc => ?_)
    · have hf := (OB_t hf hc)
      refine lv_iconst (v := 1) hx hb dX5_isOf_29 (by decide) ?_
      refine lv_goto (tgt := 34) hx hb dX5_isOf_30 (by decide) ?_
      refine W.eq (g2 := F0 m 34 ls [.int (bI true)]) rfl ?_
      exact (OB_some hf) _ _ _ hP hS (lv_sub hl [] rfl)
    · have hf := (OB_f hf hc)
      refine lv_iload_n hx hb dX5_isOf_4 rfl (lv_at hl 2 rfl) ?_
      refine lv_aload_n hx hb dX5_isOf_5 rfl (lv_at hl 0 rfl) ?_
      refine gfX5_11 C hE hP dX5_isOf_6 ?_
      refine lv_iload_n hx hb dX5_isOf_9 rfl (lv_at hl 1 rfl) ?_
      obtain ⟨g4, hf⟩ := OB_g hf
      refine x_iald C hE hP sh6 g4 dX5_isOf_10 ?_
      refine lv_icmp_eq (tgt := 29) hx hb dX5_isOf_11 (by decide) (fun hc => ?_) (fun hc => ?_)
      · have hf := (OB_t hf hc)
        refine lv_iconst (v := 1) hx hb dX5_isOf_29 (by decide) ?_
        refine lv_goto (tgt := 34) hx hb dX5_isOf_30 (by decide) ?_
        refine W.eq (g2 := F0 m 34 ls [.int (bI true)]) rfl ?_
        exact (OB_some hf) _ _ _ hP hS (lv_sub hl [] rfl)
      · have hf := (OB_f hf hc)
        refine lv_iload_n hx hb dX5_isOf_14 rfl (lv_at hl 2 rfl) ?_
        refine lv_iconst (v := 2) hx hb dX5_isOf_15 (by decide) ?_
        refine lv_icmp_ne (tgt := 33) hx hb dX5_isOf_16 (by decide) (fun hc => ?_) (fun hc => ?_)
        · have hf := (OB_f hf hc)
          refine lv_iconst (v := 0) hx hb dX5_isOf_33 (by decide) ?_
          refine W.eq (g2 := F0 m 34 ls [.int (bI false)]) rfl ?_
          exact (OB_some hf) _ _ _ hP hS (lv_sub hl [] rfl)
        · have hf := (OB_t hf hc)
          refine lv_aload_n hx hb dX5_isOf_19 rfl (lv_at hl 0 rfl) ?_
          refine gfX5_11 C hE hP dX5_isOf_20 ?_
          refine lv_iload_n hx hb dX5_isOf_23 rfl (lv_at hl 1 rfl) ?_
          refine x_iald C hE hP sh6 g4 dX5_isOf_24 ?_
          refine lv_iconst (v := 5) hx hb dX5_isOf_25 (by decide) ?_
          refine lv_icmp_ne (tgt := 33) hx hb dX5_isOf_26 (by decide) (fun hc => ?_) (fun hc => ?_)
          · have hf := (OB_f hf hc)
            refine lv_iconst (v := 0) hx hb dX5_isOf_33 (by decide) ?_
            refine W.eq (g2 := F0 m 34 ls [.int (bI false)]) rfl ?_
            exact (OB_some hf) _ _ _ hP hS (lv_sub hl [] rfl)
          · have hf := (OB_t hf hc)
            refine lv_iconst (v := 1) hx hb dX5_isOf_29 (by decide) ?_
            refine lv_goto (tgt := 34) hx hb dX5_isOf_30 (by decide) ?_
            refine W.eq (g2 := F0 m 34 ls [.int (bI true)]) rfl ?_
            exact (OB_some hf) _ _ _ hP hS (lv_sub hl [] rfl)
def rm_X5_anyOn : Room := { frames := 0, cells := 0, slots := 0, locals := 0 }
set_option maxRecDepth 100000 in
set_option maxHeartbeats 8000000 in
theorem c_X5_anyOn {l : Launch} {G : GG} {a1 : Int32} {M : Mem} {h : Int64}  {P9 : Bool → Prop} (hf : OB (f_X5_anyOn a1 M) P9) : Met1 l yX5_anyOn cX5_anyOn 3 (some .boolean) rm_X5_anyOn G [.ref (xa G 5), .int a1] M h (QZ0 G M h P9) := by
  unfold f_X5_anyOn at hf
  refine xm_z0 (by decide) (Nat.le_of_ble_eq_true rfl) ?_
  intro p e s m args below meth c ls Q C hE hret hP hS hl
  have C : CallFix p m c cX5_anyOn 3 s args TB RX5 := C
  have hx := C.1
  have hb := C.2.1
  have hl : lv_has ls 3 [(0, .ref (xa G 5)), (1, .int a1)] := hl
  refine lv_iconst (v := 0) hx hb dX5_anyOn_0 (by decide) ?_
  refine lv_istore_n (lv' := [(2, .int 0), (0, .ref (xa G 5)), (1, .int a1)]) hx hb dX5_anyOn_1 rfl hl (by decide) rfl (fun ls hl => ?_)
  refine xj (it_P (fun (_ : Unit) => ∀ (H : Heap) (locs : List Loc) (ls : Array Slot), va_P G.1 vwCl (wl G M h) H → va_S (Aw G) s.heap H locs → lv_has ls 3 [] → W p l e rm_X5_anyOn s m args below meth c H locs 0 0 Q (F0 m 28 ls [])) P9) hf ?_ (fun hf => ?_)
  · rintro (_ | v) hf
    · intro H locs ls hP hS hl
      refine lv_iconst (v := 0) hx hb dX5_anyOn_28 (by decide) ?_
      refine W.eq (g2 := F0 m 29 ls [.int (bI false)]) rfl ?_
      exact hret _ _ _ _ _ (OB_some hf) hP hS dX5_anyOn_29
    · exact it_q hf
  · refine (it_W (fun (x5 : Int32) => ∀ (H : Heap) (locs : List Loc) (ls : Array Slot), va_P G.1 vwCl (wl G M h) H → va_S (Aw G) s.heap H locs → lv_has ls 3 [(0, .ref (xa G 5)), (1, .int a1), (2, .int x5)] → W p l e rm_X5_anyOn s m args below meth c H locs 0 0 Q (F0 m 2 ls [])) hf ?_) _ _ _ hP hS (lv_sub hl [1, 2, 0] rfl)
    rintro x5 hf H locs ls hP hS hl
    unfold f_X5_anyOn_b2 at hf
    refine lv_iload_n hx hb dX5_anyOn_2 rfl (lv_at hl 2 rfl) ?_
    refine lv_aload_n hx hb dX5_anyOn_3 rfl (lv_at hl 0 rfl) ?_
    refine gfX5_25 C hE hP dX5_anyOn_4 ?_
    refine lv_icmp_ge (tgt := 28) hx hb dX5_anyOn_7 (by decide) (fun hc => ?_) (fun hc => ?_)
    · have hf := (OB_t hf hc)
      exact (it_e hf) _ _ _ hP hS (lv_sub hl [] rfl)
    · have hf := (OB_f hf hc)
      refine lv_aload_n hx hb dX5_anyOn_10 rfl (lv_at hl 0 rfl) ?_
      refine gfX5_15 C hE hP dX5_anyOn_11 ?_
      refine lv_iload_n hx hb dX5_anyOn_14 rfl (lv_at hl 2 rfl) ?_
      obtain ⟨g6, hf⟩ := OB_g hf
      refine x_iald C hE hP sh7 g6 dX5_anyOn_15 ?_
      refine lv_iload_n hx hb dX5_anyOn_16 rfl (lv_at hl 1 rfl) ?_
      refine lv_icmp_ne (tgt := 22) hx hb dX5_anyOn_17 (by decide) (fun hc => ?_) (fun hc => ?_)
      · have hf := (OB_f hf hc)
        refine lv_iinc (v := (x5 + 1)) (lv' := [(2, .int (x5 + 1)), (0, .ref (xa G 5)), (1, .int a1)]) hx hb dX5_anyOn_22 hl (k := 2) rfl rfl (by decide) rfl (fun ls hl => ?_)
        refine lv_goto (tgt := 2) hx hb dX5_anyOn_25 (by decide) ?_
        exact (it_c hf) _ _ _ hP hS (lv_sub hl [1, 2, 0] rfl)
      · have hf := (OB_t hf hc)
        refine lv_iconst (v := 1) hx hb dX5_anyOn_20 (by decide) ?_
        refine W.eq (g2 := F0 m 21 ls [.int (bI true)]) rfl ?_
        exact hret _ _ _ _ _ (it_r hf) hP hS dX5_anyOn_21
def rm_X5_howManyOn : Room := { frames := 2, cells := 0, slots := 0, locals := 42 }
set_option maxRecDepth 100000 in
set_option maxHeartbeats 8000000 in
theorem c_X5_howManyOn {l : Launch} {G : GG} {a1 : Int32} {M : Mem} {h : Int64}  {P9 : Int32 → Prop} (hf : OB (f_X5_howManyOn a1 M) P9) : Met1 l yX5_howManyOn cX5_howManyOn 4 (some .int) rm_X5_howManyOn G [.ref (xa G 5), .int a1] M h (QI0 G M h P9) := by
  unfold f_X5_howManyOn at hf
  refine xm_i0 (by decide) (Nat.le_of_ble_eq_true rfl) ?_
  intro p e s m args below meth c ls Q C hE hret hP hS hl
  have C : CallFix p m c cX5_howManyOn 4 s args TB RX5 := C
  have hx := C.1
  have hb := C.2.1
  have hl : lv_has ls 4 [(0, .ref (xa G 5)), (1, .int a1)] := hl
  refine lv_iconst (v := 0) hx hb dX5_howManyOn_0 (by decide) ?_
  refine lv_istore_n (lv' := [(2, .int 0), (0, .ref (xa G 5)), (1, .int a1)]) hx hb dX5_howManyOn_1 rfl hl (by decide) rfl (fun ls hl => ?_)
  refine lv_iconst (v := 0) hx hb dX5_howManyOn_2 (by decide) ?_
  refine lv_istore_n (lv' := [(3, .int 0), (2, .int 0), (0, .ref (xa G 5)), (1, .int a1)]) hx hb dX5_howManyOn_3 rfl hl (by decide) rfl (fun ls hl => ?_)
  refine xj (fun (x15 : Int32) => ∀ (H : Heap) (locs : List Loc) (ls : Array Slot), va_P G.1 vwCl (wl G M h) H → va_S (Aw G) s.heap H locs → lv_has ls 4 [(2, .int x15)] → W p l e rm_X5_howManyOn s m args below meth c H locs 0 0 Q (F0 m 30 ls [])) hf ?_ (fun hf => ?_)
  · rintro x15 hf H locs ls hP hS hl
    refine lv_iload_n hx hb dX5_howManyOn_30 rfl (lv_at hl 0 rfl) ?_
    exact hret _ _ _ _ _ (OB_some hf) hP hS dX5_howManyOn_31
  · refine (it_W (fun (zz : (Int32 × Int32)) => match zz with | (x13, x14) => ∀ (H : Heap) (locs : List Loc) (ls : Array Slot), va_P G.1 vwCl (wl G M h) H → va_S (Aw G) s.heap H locs → lv_has ls 4 [(0, .ref (xa G 5)), (1, .int a1), (2, .int x13), (3, .int x14)] → W p l e rm_X5_howManyOn s m args below meth c H locs 0 0 Q (F0 m 4 ls [])) hf ?_) _ _ _ hP hS (lv_sub hl [2, 3, 1, 0] rfl)
    rintro ⟨x13, x14⟩ hf H locs ls hP hS hl
    unfold f_X5_howManyOn_b4 at hf
    refine lv_iload_n hx hb dX5_howManyOn_4 rfl (lv_at hl 3 rfl) ?_
    refine lv_aload_n hx hb dX5_howManyOn_5 rfl (lv_at hl 0 rfl) ?_
    refine gfX5_25 C hE hP dX5_howManyOn_6 ?_
    refine lv_icmp_ge (tgt := 30) hx hb dX5_howManyOn_9 (by decide) (fun hc => ?_) (fun hc => ?_)
    · have hf := (OB_t hf hc)
      exact (it_e hf) _ _ _ hP hS (lv_sub hl [2] rfl)
    · have hf := (OB_f hf hc)
      refine lv_aload_n hx hb dX5_howManyOn_12 rfl (lv_at hl 0 rfl) ?_
      refine lv_iload_n hx hb dX5_howManyOn_13 rfl (lv_at hl 3 rfl) ?_
      refine x_ci0 (rest := []) (x_runV C hE hP hS ykX5_landOf lkX5_38 sh5 rfl (c_X5_landOf (OB_bind hf)) (by decide) rfl hl.1 (Nat.le_of_ble_eq_true rfl) dX5_howManyOn_14) hS (fun r16 H locs hf hP hS => ?_)
      refine lv_iload_n hx hb dX5_howManyOn_17 rfl (lv_at hl 1 rfl) ?_
      refine xj (fun (x17 : Int32) => ∀ (H : Heap) (locs : List Loc) (ls : Array Slot), va_P G.1 vwCl (wl G M h) H → va_S (Aw G) s.heap H locs → lv_has ls 4 [(0, .ref (xa G 5)), (1, .int a1), (2, .int x17), (3, .int x14)] → W p l e rm_X5_howManyOn s m args below meth c H locs 0 0 Q (F0 m 24 ls [])) hf ?_ (fun hf => ?_)
      · rintro x17 hf H locs ls hP hS hl
        refine lv_iinc (v := (x14 + 1)) (lv' := [(3, .int (x14 + 1)), (0, .ref (xa G 5)), (1, .int a1), (2, .int x17)]) hx hb dX5_howManyOn_24 hl (k := 3) rfl rfl (by decide) rfl (fun ls hl => ?_)
        refine lv_goto (tgt := 4) hx hb dX5_howManyOn_27 (by decide) ?_
        exact (it_c hf) _ _ _ hP hS (lv_sub hl [1, 2, 3, 0] rfl)
      · skip
        refine lv_icmp_ne (tgt := 24) hx hb dX5_howManyOn_18 (by decide) (fun hc => ?_) (fun hc => ?_)
        · have hf := (OB_f hf hc)
          exact (OB_some hf) _ _ _ hP hS (lv_sub hl [0, 1, 2, 3] rfl)
        · have hf := (OB_t hf hc)
          refine lv_iinc (v := (x13 + 1)) (lv' := [(2, .int (x13 + 1)), (0, .ref (xa G 5)), (1, .int a1), (3, .int x14)]) hx hb dX5_howManyOn_21 hl (k := 2) rfl rfl (by decide) rfl (fun ls hl => ?_)
          exact (OB_some hf) _ _ _ hP hS (lv_sub hl [1, 2, 0, 3] rfl)
def rm_X5_leadsInto : Room := { frames := 1, cells := 0, slots := 0, locals := 21 }
set_option maxRecDepth 100000 in
set_option maxHeartbeats 8000000 in
theorem c_X5_leadsInto {l : Launch} {G : GG} {a1 : Int32} {a2 : Int32} {M : Mem} {h : Int64}  {P9 : Bool → Prop} (hf : OB (f_X5_leadsInto a1 a2 M) P9) : Met1 l yX5_leadsInto cX5_leadsInto 3 (some .boolean) rm_X5_leadsInto G [.ref (xa G 5), .int a1, .int a2] M h (QZ0 G M h P9) := by
  unfold f_X5_leadsInto at hf
  refine xm_z0 (by decide) (Nat.le_of_ble_eq_true rfl) ?_
  intro p e s m args below meth c ls Q C hE hret hP hS hl
  have C : CallFix p m c cX5_leadsInto 3 s args TB RX5 := C
  have hx := C.1
  have hb := C.2.1
  have hl : lv_has ls 3 [(0, .ref (xa G 5)), (1, .int a1), (2, .int a2)] := hl
  refine lv_aload_n hx hb dX5_leadsInto_0 rfl (lv_at hl 0 rfl) ?_
  refine gfX5_11 C hE hP dX5_leadsInto_1 ?_
  refine lv_iload_n hx hb dX5_leadsInto_4 rfl (lv_at hl 1 rfl) ?_
  obtain ⟨g1, hf⟩ := OB_g hf
  refine x_iald C hE hP sh6 g1 dX5_leadsInto_5 ?_
  refine lv_aload_n hx hb dX5_leadsInto_6 rfl (lv_at hl 0 rfl) ?_
  refine gfX5_11 C hE hP dX5_leadsInto_7 ?_
  refine lv_iload_n hx hb dX5_leadsInto_10 rfl (lv_at hl 2 rfl) ?_
  obtain ⟨g2, hf⟩ := OB_g hf
  refine x_iald C hE hP sh6 g2 dX5_leadsInto_11 ?_
  refine lv_icmp_eq (tgt := 17) hx hb dX5_leadsInto_12 (by decide) (fun hc => ?_) (fun hc => ?_)
  · have hf := (OB_t hf hc)
    refine lv_aload_n hx hb dX5_leadsInto_17 rfl (lv_at hl 0 rfl) ?_
    refine gfX5_11 C hE hP dX5_leadsInto_18 ?_
    refine lv_iload_n hx hb dX5_leadsInto_21 rfl (lv_at hl 1 rfl) ?_
    refine x_iald C hE hP sh6 g1 dX5_leadsInto_22 ?_
    have hj105 : ∀ (H : Heap) (locs : List Loc) (ls : Array Slot), OB (f_X5_leadsInto_j105_0 a1 a2 M) P9 → va_P G.1 vwCl (wl G M h) H → va_S (Aw G) s.heap H locs → lv_has ls 3 [(0, .ref (xa G 5)), (1, .int a1), (2, .int a2)] → W p l e rm_X5_leadsInto s m args below meth c H locs 0 0 Q (F0 m 105 ls []) := by
      intro  H locs ls hf hP hS hl
      refine lv_aload_n hx hb dX5_leadsInto_105 rfl (lv_at hl 0 rfl) ?_
      refine gfX5_18 C hE hP dX5_leadsInto_106 ?_
      refine lv_iload_n hx hb dX5_leadsInto_109 rfl (lv_at hl 1 rfl) ?_
      refine x_iald C hE hP sh8 g1 dX5_leadsInto_110 ?_
      refine lv_aload_n hx hb dX5_leadsInto_111 rfl (lv_at hl 0 rfl) ?_
      refine gfX5_18 C hE hP dX5_leadsInto_112 ?_
      refine lv_iload_n hx hb dX5_leadsInto_115 rfl (lv_at hl 2 rfl) ?_
      refine x_iald C hE hP sh8 g2 dX5_leadsInto_116 ?_
      refine xj (fun (x9 : Bool) => ∀ (H : Heap) (locs : List Loc) (ls : Array Slot), va_P G.1 vwCl (wl G M h) H → va_S (Aw G) s.heap H locs → lv_has ls 3 [] → W p l e rm_X5_leadsInto s m args below meth c H locs 0 0 Q (F0 m 125 ls [.int (bI x9)])) hf ?_ (fun hf => ?_)
      · rintro x9 hf H locs ls hP hS hl
        exact hret _ _ _ _ _ (OB_some hf) hP hS dX5_leadsInto_125
      · skip
        refine lv_icmp_ne (tgt := 124) hx hb dX5_leadsInto_117 (by decide) (fun hc => ?_) (fun hc => ?_)
        · have hf := (OB_f hf hc)
          refine lv_iconst (v := 0) hx hb dX5_leadsInto_124 (by decide) ?_
          refine W.eq (g2 := F0 m 125 ls [.int (bI false)]) rfl ?_
          exact (OB_some hf) _ _ _ hP hS (lv_sub hl [] rfl)
        · have hf := (OB_t hf hc)
          refine lv_iconst (v := 1) hx hb dX5_leadsInto_120 (by decide) ?_
          refine lv_goto (tgt := 125) hx hb dX5_leadsInto_121 (by decide) ?_
          refine W.eq (g2 := F0 m 125 ls [.int (bI true)]) rfl ?_
          exact (OB_some hf) _ _ _ hP hS (lv_sub hl [] rfl)
    by_cases hs23_0 : (M 6 (Int32.toNatClampNeg a1)) = 1
    · have hf := OB_t hf hs23_0
      refine lv_tableIn (off := 29) (tgt := 52) hx hb dX5_leadsInto_23 (by rw [hs23_0]; decide) (by rw [hs23_0]; decide) (by rw [hs23_0]; rfl) (by decide) ?_
      refine lv_aload_n hx hb dX5_leadsInto_52 rfl (lv_at hl 0 rfl) ?_
      refine gfX5_18 C hE hP dX5_leadsInto_53 ?_
      refine lv_iload_n hx hb dX5_leadsInto_56 rfl (lv_at hl 1 rfl) ?_
      refine x_iald C hE hP sh8 g1 dX5_leadsInto_57 ?_
      refine lv_aload_n hx hb dX5_leadsInto_58 rfl (lv_at hl 0 rfl) ?_
      refine gfX5_18 C hE hP dX5_leadsInto_59 ?_
      refine lv_iload_n hx hb dX5_leadsInto_62 rfl (lv_at hl 2 rfl) ?_
      refine x_iald C hE hP sh8 g2 dX5_leadsInto_63 ?_
      refine lv_isub hx hb dX5_leadsInto_64 ?_
      refine x_mabs C hl.1 lkX5_41 (by decide) (Nat.le_of_ble_eq_true rfl) dX5_leadsInto_65 ?_
      refine lv_iconst (v := 1) hx hb dX5_leadsInto_68 (by decide) ?_
      refine xj (fun (x10 : Bool) => ∀ (H : Heap) (locs : List Loc) (ls : Array Slot), va_P G.1 vwCl (wl G M h) H → va_S (Aw G) s.heap H locs → lv_has ls 3 [] → W p l e rm_X5_leadsInto s m args below meth c H locs 0 0 Q (F0 m 77 ls [.int (bI x10)])) hf ?_ (fun hf => ?_)
      · rintro x10 hf H locs ls hP hS hl
        exact hret _ _ _ _ _ (OB_some hf) hP hS dX5_leadsInto_77
      · skip
        refine lv_icmp_gt (tgt := 76) hx hb dX5_leadsInto_69 (by decide) (fun hc => ?_) (fun hc => ?_)
        · have hf := (OB_t hf hc)
          refine lv_iconst (v := 0) hx hb dX5_leadsInto_76 (by decide) ?_
          refine W.eq (g2 := F0 m 77 ls [.int (bI false)]) rfl ?_
          exact (OB_some hf) _ _ _ hP hS (lv_sub hl [] rfl)
        · have hf := (OB_f hf hc)
          refine lv_iconst (v := 1) hx hb dX5_leadsInto_72 (by decide) ?_
          refine lv_goto (tgt := 77) hx hb dX5_leadsInto_73 (by decide) ?_
          refine W.eq (g2 := F0 m 77 ls [.int (bI true)]) rfl ?_
          exact (OB_some hf) _ _ _ hP hS (lv_sub hl [] rfl)
    · have hf := OB_f hf hs23_0
      by_cases hs23_1 : (M 6 (Int32.toNatClampNeg a1)) = 2
      · have hf := OB_t hf hs23_1
        refine lv_tableIn (off := 82) (tgt := 105) hx hb dX5_leadsInto_23 (by rw [hs23_1]; decide) (by rw [hs23_1]; decide) (by rw [hs23_1]; rfl) (by decide) ?_
        exact hj105  _ _ _ hf hP hS (lv_sub hl [0, 1, 2] rfl)
      · have hf := OB_f hf hs23_1
        by_cases hs23_2 : (M 6 (Int32.toNatClampNeg a1)) = 3
        · have hf := OB_t hf hs23_2
          refine lv_tableIn (off := 55) (tgt := 78) hx hb dX5_leadsInto_23 (by rw [hs23_2]; decide) (by rw [hs23_2]; decide) (by rw [hs23_2]; rfl) (by decide) ?_
          refine lv_aload_n hx hb dX5_leadsInto_78 rfl (lv_at hl 0 rfl) ?_
          refine gfX5_18 C hE hP dX5_leadsInto_79 ?_
          refine lv_iload_n hx hb dX5_leadsInto_82 rfl (lv_at hl 1 rfl) ?_
          refine x_iald C hE hP sh8 g1 dX5_leadsInto_83 ?_
          refine lv_iconst (v := 4) hx hb dX5_leadsInto_84 (by decide) ?_
          refine x_irem C dX5_leadsInto_85 (by decide) ?_
          refine lv_aload_n hx hb dX5_leadsInto_86 rfl (lv_at hl 0 rfl) ?_
          refine gfX5_18 C hE hP dX5_leadsInto_87 ?_
          refine lv_iload_n hx hb dX5_leadsInto_90 rfl (lv_at hl 2 rfl) ?_
          refine x_iald C hE hP sh8 g2 dX5_leadsInto_91 ?_
          refine lv_iconst (v := 4) hx hb dX5_leadsInto_92 (by decide) ?_
          refine x_irem C dX5_leadsInto_93 (by decide) ?_
          refine xj (fun (x11 : Bool) => ∀ (H : Heap) (locs : List Loc) (ls : Array Slot), va_P G.1 vwCl (wl G M h) H → va_S (Aw G) s.heap H locs → lv_has ls 3 [] → W p l e rm_X5_leadsInto s m args below meth c H locs 0 0 Q (F0 m 102 ls [.int (bI x11)])) hf ?_ (fun hf => ?_)
          · rintro x11 hf H locs ls hP hS hl
            exact hret _ _ _ _ _ (OB_some hf) hP hS dX5_leadsInto_102
          · skip
            refine lv_icmp_ne (tgt := 101) hx hb dX5_leadsInto_94 (by decide) (fun hc => ?_) (fun hc => ?_)
            · have hf := (OB_f hf hc)
              refine lv_iconst (v := 0) hx hb dX5_leadsInto_101 (by decide) ?_
              refine W.eq (g2 := F0 m 102 ls [.int (bI false)]) rfl ?_
              exact (OB_some hf) _ _ _ hP hS (lv_sub hl [] rfl)
            · have hf := (OB_t hf hc)
              refine lv_iconst (v := 1) hx hb dX5_leadsInto_97 (by decide) ?_
              refine lv_goto (tgt := 102) hx hb dX5_leadsInto_98 (by decide) ?_
              refine W.eq (g2 := F0 m 102 ls [.int (bI true)]) rfl ?_
              exact (OB_some hf) _ _ _ hP hS (lv_sub hl [] rfl)
        · have hf := OB_f hf hs23_2
          by_cases hs23_3 : (M 6 (Int32.toNatClampNeg a1)) = 4
          · have hf := OB_t hf hs23_3
            refine lv_tableIn (off := 80) (tgt := 103) hx hb dX5_leadsInto_23 (by rw [hs23_3]; decide) (by rw [hs23_3]; decide) (by rw [hs23_3]; rfl) (by decide) ?_
            refine lv_iconst (v := 0) hx hb dX5_leadsInto_103 (by decide) ?_
            refine W.eq (g2 := F0 m 104 ls [.int (bI false)]) rfl ?_
            exact hret _ _ _ _ _ (OB_some hf) hP hS dX5_leadsInto_104
          · have hf := OB_f hf hs23_3
            refine lv_tableOut (tgt := 105) hx hb dX5_leadsInto_23 (by have n0 := lv_neT hs23_0 (by decide : (1 : Int32).toInt = 1); have n1 := lv_neT hs23_1 (by decide : (2 : Int32).toInt = 2); have n2 := lv_neT hs23_2 (by decide : (3 : Int32).toInt = 3); have n3 := lv_neT hs23_3 (by decide : (4 : Int32).toInt = 4); omega) (by decide) ?_
            exact hj105  _ _ _ hf hP hS (lv_sub hl [0, 1, 2] rfl)
  · have hf := (OB_f hf hc)
    refine lv_iconst (v := 0) hx hb dX5_leadsInto_15 (by decide) ?_
    refine W.eq (g2 := F0 m 16 ls [.int (bI false)]) rfl ?_
    exact hret _ _ _ _ _ (OB_some hf) hP hS dX5_leadsInto_16
def rm_X11_ringDistance : Room := { frames := 1, cells := 0, slots := 0, locals := 21 }
set_option maxRecDepth 100000 in
set_option maxHeartbeats 8000000 in
theorem c_X11_ringDistance {l : Launch} {G : GG} {a0 : Int32} {a1 : Int32} {M : Mem} {h : Int64}  {P9 : Int32 → Prop} (hf : OB (f_X11_ringDistance a0 a1) P9) : Met1 l yX11_ringDistance cX11_ringDistance 3 (some .int) rm_X11_ringDistance G [.int a0, .int a1] M h (QI0 G M h P9) := by
  unfold f_X11_ringDistance at hf
  refine xm_i0 (by decide) (Nat.le_of_ble_eq_true rfl) ?_
  intro p e s m args below meth c ls Q C hE hret hP hS hl
  have C : CallFix p m c cX11_ringDistance 3 s args TB RX11 := C
  have hx := C.1
  have hb := C.2.1
  have hl : lv_has ls 3 [(0, .int a0), (1, .int a1)] := hl
  refine lv_iload_n hx hb dX11_ringDistance_0 rfl (lv_at hl 0 rfl) ?_
  refine lv_bipush (v := 16) hx hb dX11_ringDistance_1 (by decide) ?_
  refine lv_iload_n hx hb dX11_ringDistance_3 rfl (lv_at hl 1 rfl) ?_
  refine lv_isub hx hb dX11_ringDistance_4 ?_
  refine x_ci0 (rest := []) (x_runS C hE hP hS ykX11_eastOf lkX11_214 (c_X11_eastOf (OB_bind hf)) (by decide) rfl hl.1 (Nat.le_of_ble_eq_true rfl) dX11_ringDistance_5) hS (fun r1 H locs hf hP hS => ?_)
  refine lv_istore_n (lv' := [(2, .int r1), (0, .int a0), (1, .int a1)]) hx hb dX11_ringDistance_8 rfl hl (by decide) rfl (fun ls hl => ?_)
  refine lv_iload_n hx hb dX11_ringDistance_9 rfl (lv_at hl 0 rfl) ?_
  refine lv_bipush (v := 16) hx hb dX11_ringDistance_10 (by decide) ?_
  refine lv_iload_n hx hb dX11_ringDistance_12 rfl (lv_at hl 0 rfl) ?_
  refine lv_isub hx hb dX11_ringDistance_13 ?_
  refine x_mmin C hl.1 lkX11_356 (by decide) (Nat.le_of_ble_eq_true rfl) dX11_ringDistance_14 ?_
  exact hret _ _ _ _ _ (OB_some hf) hP hS dX11_ringDistance_17
def rm_X5_isNextTo : Room := { frames := 2, cells := 0, slots := 0, locals := 43 }
set_option maxRecDepth 100000 in
set_option maxHeartbeats 8000000 in
theorem c_X5_isNextTo {l : Launch} {G : GG} {a0 : Int32} {a1 : Int32} {a2 : Int32} {a3 : Int32} {M : Mem} {h : Int64}  {P9 : Bool → Prop} (hf : OB (f_X5_isNextTo a0 a1 a2 a3) P9) : Met1 l yX5_isNextTo cX5_isNextTo 4 (some .boolean) rm_X5_isNextTo G [.int a0, .int a1, .int a2, .int a3] M h (QZ0 G M h P9) := by
  unfold f_X5_isNextTo at hf
  refine xm_z0 (by decide) (Nat.le_of_ble_eq_true rfl) ?_
  intro p e s m args below meth c ls Q C hE hret hP hS hl
  have C : CallFix p m c cX5_isNextTo 4 s args TB RX5 := C
  have hx := C.1
  have hb := C.2.1
  have hl : lv_has ls 4 [(0, .int a0), (1, .int a1), (2, .int a2), (3, .int a3)] := hl
  refine lv_iload_n hx hb dX5_isNextTo_0 rfl (lv_at hl 0 rfl) ?_
  refine lv_bipush (v := 16) hx hb dX5_isNextTo_1 (by decide) ?_
  refine lv_idiv hx hb dX5_isNextTo_3 (by decide) ?_
  refine lv_iload_n hx hb dX5_isNextTo_4 rfl (lv_at hl 1 rfl) ?_
  refine lv_bipush (v := 16) hx hb dX5_isNextTo_5 (by decide) ?_
  refine lv_idiv hx hb dX5_isNextTo_7 (by decide) ?_
  refine lv_iload_n hx hb dX5_isNextTo_8 rfl (lv_at hl 2 rfl) ?_
  refine lv_iadd hx hb dX5_isNextTo_9 ?_
  refine xj (fun (x5 : Bool) => ∀ (H : Heap) (locs : List Loc) (ls : Array Slot), va_P G.1 vwCl (wl G M h) H → va_S (Aw G) s.heap H locs → lv_has ls 4 [] → W p l e rm_X5_isNextTo s m args below meth c H locs 0 0 Q (F0 m 37 ls [.int (bI x5)])) hf ?_ (fun hf => ?_)
  · rintro x5 hf H locs ls hP hS hl
    exact hret _ _ _ _ _ (OB_some hf) hP hS dX5_isNextTo_37
  · skip
    refine lv_icmp_ne (tgt := 36) hx hb dX5_isNextTo_10 (by decide) (fun hc => ?_) (fun hc => ?_)
    · have hf := (OB_f hf hc)
      refine lv_iconst (v := 0) hx hb dX5_isNextTo_36 (by decide) ?_
      refine W.eq (g2 := F0 m 37 ls [.int (bI false)]) rfl ?_
      exact (OB_some hf) _ _ _ hP hS (lv_sub hl [] rfl)
    · have hf := (OB_t hf hc)
      refine lv_iload_n hx hb dX5_isNextTo_13 rfl (lv_at hl 0 rfl) ?_
      refine lv_bipush (v := 16) hx hb dX5_isNextTo_14 (by decide) ?_
      refine x_irem C dX5_isNextTo_16 (by decide) ?_
      refine lv_iload_n hx hb dX5_isNextTo_17 rfl (lv_at hl 1 rfl) ?_
      refine lv_bipush (v := 16) hx hb dX5_isNextTo_18 (by decide) ?_
      refine x_irem C dX5_isNextTo_20 (by decide) ?_
      refine lv_iload_n hx hb dX5_isNextTo_21 rfl (lv_at hl 3 rfl) ?_
      refine x_ci0 (rest := [.int (jrem a0 16)]) (x_runSN C hE hP hS ykX11_eastOf lkX5_61 (c_X11_eastOf (OB_bind hf)) (by decide) rfl hl.1 (Nat.le_of_ble_eq_true rfl) dX5_isNextTo_22) hS (fun r6 H locs hf hP hS => ?_)
      refine x_ci0 (rest := []) (x_runSN C hE hP hS ykX11_ringDistance lkX5_65 (c_X11_ringDistance (OB_bind hf)) (by decide) rfl hl.1 (Nat.le_of_ble_eq_true rfl) dX5_isNextTo_25) hS (fun r7 H locs hf hP hS => ?_)
      refine lv_iconst (v := 1) hx hb dX5_isNextTo_28 (by decide) ?_
      refine lv_icmp_ne (tgt := 36) hx hb dX5_isNextTo_29 (by decide) (fun hc => ?_) (fun hc => ?_)
      · have hf := (OB_f hf hc)
        refine lv_iconst (v := 0) hx hb dX5_isNextTo_36 (by decide) ?_
        refine W.eq (g2 := F0 m 37 ls [.int (bI false)]) rfl ?_
        exact (OB_some hf) _ _ _ hP hS (lv_sub hl [] rfl)
      · have hf := (OB_t hf hc)
        refine lv_iconst (v := 1) hx hb dX5_isNextTo_32 (by decide) ?_
        refine lv_goto (tgt := 37) hx hb dX5_isNextTo_33 (by decide) ?_
        refine W.eq (g2 := F0 m 37 ls [.int (bI true)]) rfl ?_
        exact (OB_some hf) _ _ _ hP hS (lv_sub hl [] rfl)
def rm_X5_goingOnFrom : Room := { frames := 3, cells := 0, slots := 0, locals := 66 }
set_option maxRecDepth 100000 in
set_option maxHeartbeats 8000000 in
theorem c_X5_goingOnFrom {l : Launch} {G : GG} {a1 : Int32} {a2 : Int32} {a3 : Int32} {a4 : Int32} {M : Mem} {h : Int64}  {P9 : Int32 → Prop} (hf : OB (f_X5_goingOnFrom a1 a2 a3 a4 M) P9) : Met1 l yX5_goingOnFrom cX5_goingOnFrom 7 (some .int) rm_X5_goingOnFrom G [.ref (xa G 5), .int a1, .int a2, .int a3, .int a4] M h (QI0 G M h P9) := by
  unfold f_X5_goingOnFrom at hf
  refine xm_i0 (by decide) (Nat.le_of_ble_eq_true rfl) ?_
  intro p e s m args below meth c ls Q C hE hret hP hS hl
  have C : CallFix p m c cX5_goingOnFrom 7 s args TB RX5 := C
  have hx := C.1
  have hb := C.2.1
  have hl : lv_has ls 7 [(0, .ref (xa G 5)), (1, .int a1), (2, .int a2), (3, .int a3), (4, .int a4)] := hl
  refine lv_iconst (v := 0) hx hb dX5_goingOnFrom_0 (by decide) ?_
  refine lv_istore (lv' := [(5, .int 0), (0, .ref (xa G 5)), (1, .int a1), (2, .int a2), (3, .int a3), (4, .int a4)]) hx hb dX5_goingOnFrom_1 hl (by decide) rfl (fun ls hl => ?_)
  refine lv_iconst (v := 0) hx hb dX5_goingOnFrom_3 (by decide) ?_
  refine lv_istore (lv' := [(6, .int 0), (5, .int 0), (0, .ref (xa G 5)), (1, .int a1), (2, .int a2), (3, .int a3), (4, .int a4)]) hx hb dX5_goingOnFrom_4 hl (by decide) rfl (fun ls hl => ?_)
  refine xj (fun (x108 : Int32) => ∀ (H : Heap) (locs : List Loc) (ls : Array Slot), va_P G.1 vwCl (wl G M h) H → va_S (Aw G) s.heap H locs → lv_has ls 7 [(5, .int x108)] → W p l e rm_X5_goingOnFrom s m args below meth c H locs 0 0 Q (F0 m 98 ls [])) hf ?_ (fun hf => ?_)
  · rintro x108 hf H locs ls hP hS hl
    refine lv_iload hx hb dX5_goingOnFrom_98 (lv_at hl 0 rfl) ?_
    exact hret _ _ _ _ _ (OB_some hf) hP hS dX5_goingOnFrom_100
  · refine (it_W (fun (zz : (Int32 × Int32)) => match zz with | (x106, x107) => ∀ (H : Heap) (locs : List Loc) (ls : Array Slot), va_P G.1 vwCl (wl G M h) H → va_S (Aw G) s.heap H locs → lv_has ls 7 [(0, .ref (xa G 5)), (1, .int a1), (2, .int a2), (3, .int a3), (4, .int a4), (5, .int x106), (6, .int x107)] → W p l e rm_X5_goingOnFrom s m args below meth c H locs 0 0 Q (F0 m 6 ls [])) hf ?_) _ _ _ hP hS (lv_sub hl [2, 3, 4, 5, 6, 1, 0] rfl)
    rintro ⟨x106, x107⟩ hf H locs ls hP hS hl
    unfold f_X5_goingOnFrom_b6 at hf
    refine lv_iload hx hb dX5_goingOnFrom_6 (lv_at hl 6 rfl) ?_
    refine lv_aload_n hx hb dX5_goingOnFrom_8 rfl (lv_at hl 0 rfl) ?_
    refine gfX5_25 C hE hP dX5_goingOnFrom_9 ?_
    refine lv_icmp_ge (tgt := 98) hx hb dX5_goingOnFrom_12 (by decide) (fun hc => ?_) (fun hc => ?_)
    · have hf := (OB_t hf hc)
      exact (it_e hf) _ _ _ hP hS (lv_sub hl [5] rfl)
    · have hf := (OB_f hf hc)
      refine lv_aload_n hx hb dX5_goingOnFrom_15 rfl (lv_at hl 0 rfl) ?_
      refine gfX5_11 C hE hP dX5_goingOnFrom_16 ?_
      refine lv_iload hx hb dX5_goingOnFrom_19 (lv_at hl 6 rfl) ?_
      obtain ⟨g109, hf⟩ := OB_g hf
      refine x_iald C hE hP sh6 g109 dX5_goingOnFrom_21 ?_
      refine lv_aload_n hx hb dX5_goingOnFrom_22 rfl (lv_at hl 0 rfl) ?_
      refine gfX5_11 C hE hP dX5_goingOnFrom_23 ?_
      refine lv_iload_n hx hb dX5_goingOnFrom_26 rfl (lv_at hl 1 rfl) ?_
      obtain ⟨g110, hf⟩ := OB_g hf
      refine x_iald C hE hP sh6 g110 dX5_goingOnFrom_27 ?_
      refine xj (fun (x131 : Int32) => ∀ (H : Heap) (locs : List Loc) (ls : Array Slot), va_P G.1 vwCl (wl G M h) H → va_S (Aw G) s.heap H locs → lv_has ls 7 [(0, .ref (xa G 5)), (1, .int a1), (2, .int a2), (3, .int a3), (4, .int a4), (5, .int x131), (6, .int x107)] → W p l e rm_X5_goingOnFrom s m args below meth c H locs 0 0 Q (F0 m 92 ls [])) hf ?_ (fun hf => ?_)
      · rintro x131 hf H locs ls hP hS hl
        refine lv_iinc (v := (x107 + 1)) (lv' := [(6, .int (x107 + 1)), (0, .ref (xa G 5)), (1, .int a1), (2, .int a2), (3, .int a3), (4, .int a4), (5, .int x131)]) hx hb dX5_goingOnFrom_92 hl (k := 6) rfl rfl (by decide) rfl (fun ls hl => ?_)
        refine lv_goto (tgt := 6) hx hb dX5_goingOnFrom_95 (by decide) ?_
        exact (it_c hf) _ _ _ hP hS (lv_sub hl [1, 2, 3, 4, 5, 6, 0] rfl)
      · skip
        refine lv_icmp_ne (tgt := 92) hx hb dX5_goingOnFrom_28 (by decide) (fun hc => ?_) (fun hc => ?_)
        · have hf := (OB_f hf hc)
          exact (OB_some hf) _ _ _ hP hS (lv_sub hl [0, 1, 2, 3, 4, 5, 6] rfl)
        · have hf := (OB_t hf hc)
          refine lv_aload_n hx hb dX5_goingOnFrom_31 rfl (lv_at hl 0 rfl) ?_
          refine lv_iload hx hb dX5_goingOnFrom_32 (lv_at hl 6 rfl) ?_
          refine x_ci0 (rest := []) (x_runV C hE hP hS ykX5_landOf lkX5_38 sh5 rfl (c_X5_landOf (OB_bind hf)) (by decide) rfl hl.1 (Nat.le_of_ble_eq_true rfl) dX5_goingOnFrom_34) hS (fun r132 H locs hf hP hS => ?_)
          refine lv_iload_n hx hb dX5_goingOnFrom_37 rfl (lv_at hl 2 rfl) ?_
          refine lv_icmp_ne (tgt := 92) hx hb dX5_goingOnFrom_38 (by decide) (fun hc => ?_) (fun hc => ?_)
          · have hf := (OB_f hf hc)
            exact (OB_some hf) _ _ _ hP hS (lv_sub hl [0, 1, 2, 3, 4, 5, 6] rfl)
          · have hf := (OB_t hf hc)
            refine lv_aload_n hx hb dX5_goingOnFrom_41 rfl (lv_at hl 0 rfl) ?_
            refine gfX5_15 C hE hP dX5_goingOnFrom_42 ?_
            refine lv_iload_n hx hb dX5_goingOnFrom_45 rfl (lv_at hl 1 rfl) ?_
            refine x_iald C hE hP sh7 g110 dX5_goingOnFrom_46 ?_
            refine lv_aload_n hx hb dX5_goingOnFrom_47 rfl (lv_at hl 0 rfl) ?_
            refine gfX5_15 C hE hP dX5_goingOnFrom_48 ?_
            refine lv_iload hx hb dX5_goingOnFrom_51 (lv_at hl 6 rfl) ?_
            refine x_iald C hE hP sh7 g109 dX5_goingOnFrom_53 ?_
            refine lv_iload_n hx hb dX5_goingOnFrom_54 rfl (lv_at hl 3 rfl) ?_
            refine lv_iload hx hb dX5_goingOnFrom_55 (lv_at hl 4 rfl) ?_
            refine x_cz0 (rest := []) (x_runS C hE hP hS ykX5_isNextTo lkX5_50 (c_X5_isNextTo (OB_bind hf)) (by decide) rfl hl.1 (Nat.le_of_ble_eq_true rfl) dX5_goingOnFrom_57) hS (fun r133 H locs hf hP hS => ?_)
            refine lv_if_eq (tgt := 92) hx hb dX5_goingOnFrom_60 (by decide) (fun hc => ?_) (fun hc => ?_)
            · have hf := (OB_f hf (bI_f hc))
              exact (OB_some hf) _ _ _ hP hS (lv_sub hl [0, 1, 2, 3, 4, 5, 6] rfl)
            · have hf := (OB_t hf (bI_t hc))
              refine lv_iload hx hb dX5_goingOnFrom_63 (lv_at hl 5 rfl) ?_
              refine lv_aload_n hx hb dX5_goingOnFrom_65 rfl (lv_at hl 0 rfl) ?_
              refine lv_iload_n hx hb dX5_goingOnFrom_66 rfl (lv_at hl 1 rfl) ?_
              refine lv_iload hx hb dX5_goingOnFrom_67 (lv_at hl 6 rfl) ?_
              refine x_cz0 (rest := [.int x106]) (x_runV C hE hP hS ykX5_leadsInto lkX5_54 sh5 rfl (c_X5_leadsInto (OB_bind hf)) (by decide) rfl hl.1 (Nat.le_of_ble_eq_true rfl) dX5_goingOnFrom_69) hS (fun r134 H locs hf hP hS => ?_)
              refine xj (fun (x139 : Int32) => ∀ (H : Heap) (locs : List Loc) (ls : Array Slot), va_P G.1 vwCl (wl G M h) H → va_S (Aw G) s.heap H locs → lv_has ls 7 [(0, .ref (xa G 5)), (1, .int a1), (2, .int a2), (3, .int a3), (4, .int a4), (6, .int x107)] → W p l e rm_X5_goingOnFrom s m args below meth c H locs 0 0 Q (F0 m 89 ls [.int x139, .int x106])) hf ?_ (fun hf => ?_)
              · rintro x139 hf H locs ls hP hS hl
                refine lv_iadd hx hb dX5_goingOnFrom_89 ?_
                refine lv_istore (lv' := [(5, .int (x106 + x139)), (0, .ref (xa G 5)), (1, .int a1), (2, .int a2), (3, .int a3), (4, .int a4), (6, .int x107)]) hx hb dX5_goingOnFrom_90 hl (by decide) rfl (fun ls hl => ?_)
                exact (OB_some hf) _ _ _ hP hS (lv_sub hl [1, 2, 3, 4, 5, 0, 6] rfl)
              · skip
                refine lv_if_eq (tgt := 83) hx hb dX5_goingOnFrom_72 (by decide) (fun hc => ?_) (fun hc => ?_)
                · have hf := (OB_f hf (bI_f hc))
                  refine lv_aload_n hx hb dX5_goingOnFrom_83 rfl (lv_at hl 0 rfl) ?_
                  refine lv_iload_n hx hb dX5_goingOnFrom_84 rfl (lv_at hl 1 rfl) ?_
                  refine x_ci0 (rest := [.int x106]) (x_runV C hE hP hS ykX5_weightOf lkX5_58 sh5 rfl (c_X5_weightOf (OB_bind hf)) (by decide) rfl hl.1 (Nat.le_of_ble_eq_true rfl) dX5_goingOnFrom_85) hS (fun r140 H locs hf hP hS => ?_)
                  refine lv_ineg hx hb dX5_goingOnFrom_88 ?_
                  exact (OB_some hf) _ _ _ hP hS (lv_sub hl [0, 1, 2, 3, 4, 6] rfl)
                · have hf := (OB_t hf (bI_t hc))
                  refine lv_aload_n hx hb dX5_goingOnFrom_75 rfl (lv_at hl 0 rfl) ?_
                  refine lv_iload_n hx hb dX5_goingOnFrom_76 rfl (lv_at hl 1 rfl) ?_
                  refine x_ci0 (rest := [.int x106]) (x_runV C hE hP hS ykX5_weightOf lkX5_58 sh5 rfl (c_X5_weightOf (OB_bind hf)) (by decide) rfl hl.1 (Nat.le_of_ble_eq_true rfl) dX5_goingOnFrom_77) hS (fun r141 H locs hf hP hS => ?_)
                  refine lv_goto (tgt := 89) hx hb dX5_goingOnFrom_80 (by decide) ?_
                  exact (OB_some hf) _ _ _ hP hS (lv_sub hl [0, 1, 2, 3, 4, 6] rfl)
def rm_X5_goingOn : Room := { frames := 4, cells := 0, slots := 0, locals := 92 }
set_option maxRecDepth 100000 in
set_option maxHeartbeats 8000000 in
theorem c_X5_goingOn {l : Launch} {G : GG} {a1 : Int32} {a2 : Int32} {a3 : Int32} {a4 : Int32} {M : Mem} {h : Int64}  {P9 : Int32 → Prop} (hf : OB (f_X5_goingOn a1 a2 a3 a4 M) P9) : Met1 l yX5_goingOn cX5_goingOn 7 (some .int) rm_X5_goingOn G [.ref (xa G 5), .int a1, .int a2, .int a3, .int a4] M h (QI0 G M h P9) := by
  unfold f_X5_goingOn at hf
  refine xm_i0 (by decide) (Nat.le_of_ble_eq_true rfl) ?_
  intro p e s m args below meth c ls Q C hE hret hP hS hl
  have C : CallFix p m c cX5_goingOn 7 s args TB RX5 := C
  have hx := C.1
  have hb := C.2.1
  have hl : lv_has ls 7 [(0, .ref (xa G 5)), (1, .int a1), (2, .int a2), (3, .int a3), (4, .int a4)] := hl
  refine lv_iconst (v := 0) hx hb dX5_goingOn_0 (by decide) ?_
  refine lv_istore (lv' := [(5, .int 0), (0, .ref (xa G 5)), (1, .int a1), (2, .int a2), (3, .int a3), (4, .int a4)]) hx hb dX5_goingOn_1 hl (by decide) rfl (fun ls hl => ?_)
  refine lv_iconst (v := 0) hx hb dX5_goingOn_3 (by decide) ?_
  refine lv_istore (lv' := [(6, .int 0), (5, .int 0), (0, .ref (xa G 5)), (1, .int a1), (2, .int a2), (3, .int a3), (4, .int a4)]) hx hb dX5_goingOn_4 hl (by decide) rfl (fun ls hl => ?_)
  refine xj (fun (x24 : Int32) => ∀ (H : Heap) (locs : List Loc) (ls : Array Slot), va_P G.1 vwCl (wl G M h) H → va_S (Aw G) s.heap H locs → lv_has ls 7 [(5, .int x24)] → W p l e rm_X5_goingOn s m args below meth c H locs 0 0 Q (F0 m 46 ls [])) hf ?_ (fun hf => ?_)
  · rintro x24 hf H locs ls hP hS hl
    refine lv_iload hx hb dX5_goingOn_46 (lv_at hl 0 rfl) ?_
    exact hret _ _ _ _ _ (OB_some hf) hP hS dX5_goingOn_48
  · refine (it_W (fun (zz : (Int32 × Int32)) => match zz with | (x22, x23) => ∀ (H : Heap) (locs : List Loc) (ls : Array Slot), va_P G.1 vwCl (wl G M h) H → va_S (Aw G) s.heap H locs → lv_has ls 7 [(0, .ref (xa G 5)), (1, .int a1), (2, .int a2), (3, .int a3), (4, .int a4), (5, .int x22), (6, .int x23)] → W p l e rm_X5_goingOn s m args below meth c H locs 0 0 Q (F0 m 6 ls [])) hf ?_) _ _ _ hP hS (lv_sub hl [2, 3, 4, 5, 6, 1, 0] rfl)
    rintro ⟨x22, x23⟩ hf H locs ls hP hS hl
    unfold f_X5_goingOn_b6 at hf
    refine lv_iload hx hb dX5_goingOn_6 (lv_at hl 6 rfl) ?_
    refine lv_aload_n hx hb dX5_goingOn_8 rfl (lv_at hl 0 rfl) ?_
    refine gfX5_25 C hE hP dX5_goingOn_9 ?_
    refine lv_icmp_ge (tgt := 46) hx hb dX5_goingOn_12 (by decide) (fun hc => ?_) (fun hc => ?_)
    · have hf := (OB_t hf hc)
      exact (it_e hf) _ _ _ hP hS (lv_sub hl [5] rfl)
    · have hf := (OB_f hf hc)
      refine lv_aload_n hx hb dX5_goingOn_15 rfl (lv_at hl 0 rfl) ?_
      refine lv_iload hx hb dX5_goingOn_16 (lv_at hl 6 rfl) ?_
      refine x_ci0 (rest := []) (x_runV C hE hP hS ykX5_landOf lkX5_38 sh5 rfl (c_X5_landOf (OB_bind hf)) (by decide) rfl hl.1 (Nat.le_of_ble_eq_true rfl) dX5_goingOn_18) hS (fun r25 H locs hf hP hS => ?_)
      refine lv_iload_n hx hb dX5_goingOn_21 rfl (lv_at hl 1 rfl) ?_
      refine xj (fun (x28 : Int32) => ∀ (H : Heap) (locs : List Loc) (ls : Array Slot), va_P G.1 vwCl (wl G M h) H → va_S (Aw G) s.heap H locs → lv_has ls 7 [(0, .ref (xa G 5)), (1, .int a1), (2, .int a2), (3, .int a3), (4, .int a4), (5, .int x28), (6, .int x23)] → W p l e rm_X5_goingOn s m args below meth c H locs 0 0 Q (F0 m 40 ls [])) hf ?_ (fun hf => ?_)
      · rintro x28 hf H locs ls hP hS hl
        refine lv_iinc (v := (x23 + 1)) (lv' := [(6, .int (x23 + 1)), (0, .ref (xa G 5)), (1, .int a1), (2, .int a2), (3, .int a3), (4, .int a4), (5, .int x28)]) hx hb dX5_goingOn_40 hl (k := 6) rfl rfl (by decide) rfl (fun ls hl => ?_)
        refine lv_goto (tgt := 6) hx hb dX5_goingOn_43 (by decide) ?_
        exact (it_c hf) _ _ _ hP hS (lv_sub hl [1, 2, 3, 4, 5, 6, 0] rfl)
      · skip
        refine lv_icmp_ne (tgt := 40) hx hb dX5_goingOn_22 (by decide) (fun hc => ?_) (fun hc => ?_)
        · have hf := (OB_f hf hc)
          exact (OB_some hf) _ _ _ hP hS (lv_sub hl [0, 1, 2, 3, 4, 5, 6] rfl)
        · have hf := (OB_t hf hc)
          refine lv_iload hx hb dX5_goingOn_25 (lv_at hl 5 rfl) ?_
          refine lv_aload_n hx hb dX5_goingOn_27 rfl (lv_at hl 0 rfl) ?_
          refine lv_iload hx hb dX5_goingOn_28 (lv_at hl 6 rfl) ?_
          refine lv_iload_n hx hb dX5_goingOn_30 rfl (lv_at hl 2 rfl) ?_
          refine lv_iload_n hx hb dX5_goingOn_31 rfl (lv_at hl 3 rfl) ?_
          refine lv_iload hx hb dX5_goingOn_32 (lv_at hl 4 rfl) ?_
          refine x_ci0 (rest := [.int x22]) (x_runV C hE hP hS ykX5_goingOnFrom lkX5_46 sh5 rfl (c_X5_goingOnFrom (OB_bind hf)) (by decide) rfl hl.1 (Nat.le_of_ble_eq_true rfl) dX5_goingOn_34) hS (fun r29 H locs hf hP hS => ?_)
          refine lv_iadd hx hb dX5_goingOn_37 ?_
          refine lv_istore (lv' := [(5, .int (x22 + r29)), (0, .ref (xa G 5)), (1, .int a1), (2, .int a2), (3, .int a3), (4, .int a4), (6, .int x23)]) hx hb dX5_goingOn_38 hl (by decide) rfl (fun ls hl => ?_)
          exact (OB_some hf) _ _ _ hP hS (lv_sub hl [1, 2, 3, 4, 5, 0, 6] rfl)
def rm_X5_told : Room := { frames := 1, cells := 0, slots := 0, locals := 23 }
set_option maxRecDepth 100000 in
set_option maxHeartbeats 8000000 in
theorem c_X5_told {l : Launch} {G : GG} {a1 : Int64} {M : Mem} {h : Int64}  {P9 : Int64 → Prop} (hf : OB (f_X5_told a1 M) P9) : Met1 l yX5_told cX5_told 4 (some .long) rm_X5_told G [.ref (xa G 5), .long a1] M h (QL0 G M h P9) := by
  unfold f_X5_told at hf
  refine xm_l0 (by decide) (Nat.le_of_ble_eq_true rfl) ?_
  intro p e s m args below meth c ls Q C hE hret hP hS hl
  have C : CallFix p m c cX5_told 4 s args TB RX5 := C
  have hx := C.1
  have hb := C.2.1
  have hl : lv_has ls 4 [(0, .ref (xa G 5)), (1, .long a1)] := hl
  refine lv_iconst (v := 0) hx hb dX5_told_0 (by decide) ?_
  refine lv_istore_n (lv' := [(3, .int 0), (0, .ref (xa G 5)), (1, .long a1)]) hx hb dX5_told_1 rfl hl (by decide) rfl (fun ls hl => ?_)
  refine xj (fun (x19 : Int64) => ∀ (H : Heap) (locs : List Loc) (ls : Array Slot), va_P G.1 vwCl (wl G M h) H → va_S (Aw G) s.heap H locs → lv_has ls 4 [(1, .long x19)] → W p l e rm_X5_told s m args below meth c H locs 0 0 Q (F0 m 63 ls [])) hf ?_ (fun hf => ?_)
  · rintro x19 hf H locs ls hP hS hl
    refine lv_lload_n hx hb dX5_told_63 rfl (lv_at hl 0 rfl) ?_
    exact hret _ _ _ _ _ (OB_some hf) hP hS dX5_told_64
  · refine (it_W (fun (zz : (Int64 × Int32)) => match zz with | (x17, x18) => ∀ (H : Heap) (locs : List Loc) (ls : Array Slot), va_P G.1 vwCl (wl G M h) H → va_S (Aw G) s.heap H locs → lv_has ls 4 [(0, .ref (xa G 5)), (1, .long x17), (3, .int x18)] → W p l e rm_X5_told s m args below meth c H locs 0 0 Q (F0 m 2 ls [])) hf ?_) _ _ _ hP hS (lv_sub hl [1, 2, 0] rfl)
    rintro ⟨x17, x18⟩ hf H locs ls hP hS hl
    unfold f_X5_told_b2 at hf
    refine lv_iload_n hx hb dX5_told_2 rfl (lv_at hl 2 rfl) ?_
    refine lv_aload_n hx hb dX5_told_3 rfl (lv_at hl 0 rfl) ?_
    refine gfX5_25 C hE hP dX5_told_4 ?_
    refine lv_icmp_ge (tgt := 63) hx hb dX5_told_7 (by decide) (fun hc => ?_) (fun hc => ?_)
    · have hf := (OB_t hf hc)
      exact (it_e hf) _ _ _ hP hS (lv_sub hl [1] rfl)
    · have hf := (OB_f hf hc)
      refine lv_lload_n hx hb dX5_told_10 rfl (lv_at hl 1 rfl) ?_
      refine lv_aload_n hx hb dX5_told_11 rfl (lv_at hl 0 rfl) ?_
      refine gfX5_11 C hE hP dX5_told_12 ?_
      refine lv_iload_n hx hb dX5_told_15 rfl (lv_at hl 2 rfl) ?_
      obtain ⟨g20, hf⟩ := OB_g hf
      refine x_iald C hE hP sh6 g20 dX5_told_16 ?_
      refine lv_i2l hx hb dX5_told_17 rfl ?_
      refine x_cl0 (rest := []) (x_runSN C hE hP hS ykX11_then lkX5_68 (c_X11_then (OB_bind hf)) (by decide) rfl hl.1 (Nat.le_of_ble_eq_true rfl) dX5_told_18) hS (fun r21 H locs hf hP hS => ?_)
      refine lv_lstore_n (lv' := [(1, .long r21), (0, .ref (xa G 5)), (3, .int x18)]) hx hb dX5_told_21 rfl hl (by decide) rfl (fun ls hl => ?_)
      refine lv_lload_n hx hb dX5_told_22 rfl (lv_at hl 0 rfl) ?_
      refine lv_aload_n hx hb dX5_told_23 rfl (lv_at hl 1 rfl) ?_
      refine gfX5_15 C hE hP dX5_told_24 ?_
      refine lv_iload_n hx hb dX5_told_27 rfl (lv_at hl 2 rfl) ?_
      refine x_iald C hE hP sh7 g20 dX5_told_28 ?_
      refine lv_i2l hx hb dX5_told_29 rfl ?_
      refine x_cl0 (rest := []) (x_runSN C hE hP hS ykX11_then lkX5_68 (c_X11_then (OB_bind hf)) (by decide) rfl hl.1 (Nat.le_of_ble_eq_true rfl) dX5_told_30) hS (fun r22 H locs hf hP hS => ?_)
      refine lv_lstore_n (lv' := [(1, .long r22), (0, .ref (xa G 5)), (3, .int x18)]) hx hb dX5_told_33 rfl hl (by decide) rfl (fun ls hl => ?_)
      refine lv_lload_n hx hb dX5_told_34 rfl (lv_at hl 0 rfl) ?_
      refine lv_aload_n hx hb dX5_told_35 rfl (lv_at hl 1 rfl) ?_
      refine gfX5_18 C hE hP dX5_told_36 ?_
      refine lv_iload_n hx hb dX5_told_39 rfl (lv_at hl 2 rfl) ?_
      refine x_iald C hE hP sh8 g20 dX5_told_40 ?_
      refine lv_i2l hx hb dX5_told_41 rfl ?_
      refine x_cl0 (rest := []) (x_runSN C hE hP hS ykX11_then lkX5_68 (c_X11_then (OB_bind hf)) (by decide) rfl hl.1 (Nat.le_of_ble_eq_true rfl) dX5_told_42) hS (fun r23 H locs hf hP hS => ?_)
      refine lv_lstore_n (lv' := [(1, .long r23), (0, .ref (xa G 5)), (3, .int x18)]) hx hb dX5_told_45 rfl hl (by decide) rfl (fun ls hl => ?_)
      refine lv_lload_n hx hb dX5_told_46 rfl (lv_at hl 0 rfl) ?_
      refine lv_aload_n hx hb dX5_told_47 rfl (lv_at hl 1 rfl) ?_
      refine lv_iload_n hx hb dX5_told_48 rfl (lv_at hl 2 rfl) ?_
      refine x_ci0 (rest := [.long r23]) (x_runV C hE hP hS ykX5_weightOf lkX5_58 sh5 rfl (c_X5_weightOf (OB_bind hf)) (by decide) rfl hl.1 (Nat.le_of_ble_eq_true rfl) dX5_told_49) hS (fun r24 H locs hf hP hS => ?_)
      refine lv_i2l hx hb dX5_told_52 rfl ?_
      refine x_cl0 (rest := []) (x_runSN C hE hP hS ykX11_then lkX5_68 (c_X11_then (OB_bind hf)) (by decide) rfl hl.1 (Nat.le_of_ble_eq_true rfl) dX5_told_53) hS (fun r25 H locs hf hP hS => ?_)
      refine lv_lstore_n (lv' := [(1, .long r25), (0, .ref (xa G 5)), (3, .int x18)]) hx hb dX5_told_56 rfl hl (by decide) rfl (fun ls hl => ?_)
      refine lv_iinc (v := (x18 + 1)) (lv' := [(3, .int (x18 + 1)), (1, .long r25), (0, .ref (xa G 5))]) hx hb dX5_told_57 hl (k := 2) rfl rfl (by decide) rfl (fun ls hl => ?_)
      refine lv_goto (tgt := 2) hx hb dX5_told_60 (by decide) ?_
      exact (it_c hf) _ _ _ hP hS (lv_sub hl [2, 1, 0] rfl)
def rm_X6_byteOf : Room := { frames := 0, cells := 0, slots := 0, locals := 0 }
set_option maxRecDepth 100000 in
set_option maxHeartbeats 8000000 in
theorem c_X6_byteOf {l : Launch} {G : GG} {a0 : Int64} {a2 : Int32} {M : Mem} {h : Int64}  {P9 : Int32 → Prop} (hf : OB (f_X6_byteOf a0 a2) P9) : Met1 l yX6_byteOf cX6_byteOf 3 (some .int) rm_X6_byteOf G [.long a0, .int a2] M h (QI0 G M h P9) := by
  unfold f_X6_byteOf at hf
  refine xm_i0 (by decide) (Nat.le_of_ble_eq_true rfl) ?_
  intro p e s m args below meth c ls Q C hE hret hP hS hl
  have C : CallFix p m c cX6_byteOf 3 s args TB RX6 := C
  have hx := C.1
  have hb := C.2.1
  have hl : lv_has ls 3 [(0, .long a0), (2, .int a2)] := hl
  refine lv_lload_n hx hb dX6_byteOf_0 rfl (lv_at hl 0 rfl) ?_
  refine lv_bipush (v := 8) hx hb dX6_byteOf_1 (by decide) ?_
  refine lv_iload_n hx hb dX6_byteOf_3 rfl (lv_at hl 1 rfl) ?_
  refine lv_imul hx hb dX6_byteOf_4 ?_
  refine x_lushr C dX6_byteOf_5 ?_
  refine lv_ldc2 hx hb C.2.2.2.1 (C.2.2.2.2 _ ckX6_19) dX6_byteOf_6 ?_
  refine lv_land hx hb dX6_byteOf_9 ?_
  refine lv_l2i hx hb dX6_byteOf_10 rfl ?_
  exact hret _ _ _ _ _ (OB_some hf) hP hS dX6_byteOf_11
def rm_X6_isTold : Room := { frames := 1, cells := 0, slots := 0, locals := 22 }
set_option maxRecDepth 100000 in
set_option maxHeartbeats 8000000 in
theorem c_X6_isTold {l : Launch} {G : GG} {a0 : Int64} {M : Mem} {h : Int64}  {P9 : Bool → Prop} (hf : OB (f_X6_isTold a0) P9) : Met1 l yX6_isTold cX6_isTold 5 (some .boolean) rm_X6_isTold G [.long a0] M h (QZ0 G M h P9) := by
  unfold f_X6_isTold at hf
  refine xm_z0 (by decide) (Nat.le_of_ble_eq_true rfl) ?_
  intro p e s m args below meth c ls Q C hE hret hP hS hl
  have C : CallFix p m c cX6_isTold 5 s args TB RX6 := C
  have hx := C.1
  have hb := C.2.1
  have hl : lv_has ls 5 [(0, .long a0)] := hl
  refine lv_iconst (v := 0) hx hb dX6_isTold_0 (by decide) ?_
  refine lv_istore_n (lv' := [(2, .int 0), (0, .long a0)]) hx hb dX6_isTold_1 rfl hl (by decide) rfl (fun ls hl => ?_)
  refine lv_iconst (v := 0) hx hb dX6_isTold_2 (by decide) ?_
  refine lv_istore_n (lv' := [(3, .int 0), (2, .int 0), (0, .long a0)]) hx hb dX6_isTold_3 rfl hl (by decide) rfl (fun ls hl => ?_)
  refine xj (it_P (fun (_ : Unit) => ∀ (H : Heap) (locs : List Loc) (ls : Array Slot), va_P G.1 vwCl (wl G M h) H → va_S (Aw G) s.heap H locs → lv_has ls 5 [] → W p l e rm_X6_isTold s m args below meth c H locs 0 0 Q (F0 m 52 ls [])) P9) hf ?_ (fun hf => ?_)
  · rintro (_ | v) hf
    · intro H locs ls hP hS hl
      refine lv_iconst (v := 1) hx hb dX6_isTold_52 (by decide) ?_
      refine W.eq (g2 := F0 m 53 ls [.int (bI true)]) rfl ?_
      exact hret _ _ _ _ _ (OB_some hf) hP hS dX6_isTold_53
    · exact it_q hf
  · refine (it_W (fun (zz : (Bool × Int32)) => match zz with | (x13, x14) => ∀ (H : Heap) (locs : List Loc) (ls : Array Slot), va_P G.1 vwCl (wl G M h) H → va_S (Aw G) s.heap H locs → lv_has ls 5 [(0, .long a0), (2, .int (bI x13)), (3, .int x14)] → W p l e rm_X6_isTold s m args below meth c H locs 0 0 Q (F0 m 4 ls [])) hf ?_) _ _ _ hP hS (lv_sub hl [2, 1, 0] rfl)
    rintro ⟨x13, x14⟩ hf H locs ls hP hS hl
    unfold f_X6_isTold_b4 at hf
    refine lv_iload_n hx hb dX6_isTold_4 rfl (lv_at hl 2 rfl) ?_
    refine lv_bipush (v := 8) hx hb dX6_isTold_5 (by decide) ?_
    refine lv_icmp_ge (tgt := 52) hx hb dX6_isTold_7 (by decide) (fun hc => ?_) (fun hc => ?_)
    · have hf := (OB_t hf hc)
      exact (it_e hf) _ _ _ hP hS (lv_sub hl [] rfl)
    · have hf := (OB_f hf hc)
      refine lv_lload_n hx hb dX6_isTold_10 rfl (lv_at hl 0 rfl) ?_
      refine lv_iload_n hx hb dX6_isTold_11 rfl (lv_at hl 2 rfl) ?_
      refine x_ci0 (rest := []) (x_runS C hE hP hS ykX6_byteOf lkX6_21 (c_X6_byteOf (OB_bind hf)) (by decide) rfl hl.1 (Nat.le_of_ble_eq_true rfl) dX6_isTold_12) hS (fun r15 H locs hf hP hS => ?_)
      refine lv_istore (lv' := [(4, .int r15), (0, .long a0), (2, .int (bI x13)), (3, .int x14)]) hx hb dX6_isTold_15 hl (by decide) rfl (fun ls hl => ?_)
      refine lv_iload hx hb dX6_isTold_17 (lv_at hl 0 rfl) ?_
      refine lv_bipush (v := 126) hx hb dX6_isTold_19 (by decide) ?_
      refine lv_icmp_gt (tgt := 33) hx hb dX6_isTold_21 (by decide) (fun hc => ?_) (fun hc => ?_)
      · have hf := (OB_t hf hc)
        refine lv_iconst (v := 0) hx hb dX6_isTold_33 (by decide) ?_
        refine W.eq (g2 := F0 m 34 ls [.int (bI false)]) rfl ?_
        exact hret _ _ _ _ _ (it_r hf) hP hS dX6_isTold_34
      · have hf := (OB_f hf hc)
        refine lv_iload_n hx hb dX6_isTold_24 rfl (lv_at hl 2 rfl) ?_
        have hj35 : ∀ (H : Heap) (locs : List Loc) (ls : Array Slot), OB (f_X6_isTold_j35_0 r15 x14) (it_P (fun (zz : (Bool × Int32)) => match zz with | (x13, x14) => ∀ (H : Heap) (locs : List Loc) (ls : Array Slot), va_P G.1 vwCl (wl G M h) H → va_S (Aw G) s.heap H locs → lv_has ls 5 [(0, .long a0), (2, .int (bI x13)), (3, .int x14)] → W p l e rm_X6_isTold s m args below meth c H locs 0 0 Q (F0 m 4 ls [])) (it_P (fun (_ : Unit) => ∀ (H : Heap) (locs : List Loc) (ls : Array Slot), va_P G.1 vwCl (wl G M h) H → va_S (Aw G) s.heap H locs → lv_has ls 5 [] → W p l e rm_X6_isTold s m args below meth c H locs 0 0 Q (F0 m 52 ls [])) P9)) → va_P G.1 vwCl (wl G M h) H → va_S (Aw G) s.heap H locs → lv_has ls 5 [(0, .long a0), (3, .int x14), (4, .int r15)] → W p l e rm_X6_isTold s m args below meth c H locs 0 0 Q (F0 m 35 ls []) := by
          intro  H locs ls hf hP hS hl
          refine lv_iload hx hb dX6_isTold_35 (lv_at hl 2 rfl) ?_
          refine xj (fun (x18 : Bool) => ∀ (H : Heap) (locs : List Loc) (ls : Array Slot), va_P G.1 vwCl (wl G M h) H → va_S (Aw G) s.heap H locs → lv_has ls 5 [(0, .long a0), (3, .int x14)] → W p l e rm_X6_isTold s m args below meth c H locs 0 0 Q (F0 m 45 ls [.int (bI x18)])) hf ?_ (fun hf => ?_)
          · rintro x18 hf H locs ls hP hS hl
            refine lv_istore_n (lv' := [(2, .int (bI x18)), (0, .long a0), (3, .int x14)]) hx hb dX6_isTold_45 rfl hl (by decide) rfl (fun ls hl => ?_)
            refine lv_iinc (v := (x14 + 1)) (lv' := [(3, .int (x14 + 1)), (2, .int (bI x18)), (0, .long a0)]) hx hb dX6_isTold_46 hl (k := 2) rfl rfl (by decide) rfl (fun ls hl => ?_)
            refine lv_goto (tgt := 4) hx hb dX6_isTold_49 (by decide) ?_
            exact (it_c hf) _ _ _ hP hS (lv_sub hl [2, 1, 0] rfl)
          · skip
            refine lv_if_ne (tgt := 44) hx hb dX6_isTold_37 (by decide) (fun hc => ?_) (fun hc => ?_)
            · have hf := (OB_f hf hc)
              refine lv_iconst (v := 0) hx hb dX6_isTold_44 (by decide) ?_
              refine W.eq (g2 := F0 m 45 ls [.int (bI false)]) rfl ?_
              exact (OB_some hf) _ _ _ hP hS (lv_sub hl [0, 1] rfl)
            · have hf := (OB_t hf hc)
              refine lv_iconst (v := 1) hx hb dX6_isTold_40 (by decide) ?_
              refine lv_goto (tgt := 45) hx hb dX6_isTold_41 (by decide) ?_
              refine W.eq (g2 := F0 m 45 ls [.int (bI true)]) rfl ?_
              exact (OB_some hf) _ _ _ hP hS (lv_sub hl [0, 1] rfl)
        refine lv_if_eq (tgt := 35) hx hb dX6_isTold_25 (by decide) (fun hc => ?_) (fun hc => ?_)
        · have hf := (OB_f hf (bI_f hc))
          exact hj35  _ _ _ hf hP hS (lv_sub hl [1, 3, 0] rfl)
        · have hf := (OB_t hf (bI_t hc))
          refine lv_iload hx hb dX6_isTold_28 (lv_at hl 0 rfl) ?_
          refine lv_if_eq (tgt := 35) hx hb dX6_isTold_30 (by decide) (fun hc => ?_) (fun hc => ?_)
          · have hf := (OB_t hf hc)
            exact hj35  _ _ _ hf hP hS (lv_sub hl [1, 3, 0] rfl)
          · have hf := (OB_f hf hc)
            refine lv_iconst (v := 0) hx hb dX6_isTold_33 (by decide) ?_
            refine W.eq (g2 := F0 m 34 ls [.int (bI false)]) rfl ?_
            exact hret _ _ _ _ _ (it_r hf) hP hS dX6_isTold_34
def rm_X6_howManyIn : Room := { frames := 1, cells := 0, slots := 0, locals := 22 }
set_option maxRecDepth 100000 in
set_option maxHeartbeats 8000000 in
theorem c_X6_howManyIn {l : Launch} {G : GG} {a0 : Int64} {M : Mem} {h : Int64}  {P9 : Int32 → Prop} (hf : OB (f_X6_howManyIn a0) P9) : Met1 l yX6_howManyIn cX6_howManyIn 4 (some .int) rm_X6_howManyIn G [.long a0] M h (QI0 G M h P9) := by
  unfold f_X6_howManyIn at hf
  refine xm_i0 (by decide) (Nat.le_of_ble_eq_true rfl) ?_
  intro p e s m args below meth c ls Q C hE hret hP hS hl
  have C : CallFix p m c cX6_howManyIn 4 s args TB RX6 := C
  have hx := C.1
  have hb := C.2.1
  have hl : lv_has ls 4 [(0, .long a0)] := hl
  refine lv_iconst (v := 0) hx hb dX6_howManyIn_0 (by decide) ?_
  refine lv_istore_n (lv' := [(2, .int 0), (0, .long a0)]) hx hb dX6_howManyIn_1 rfl hl (by decide) rfl (fun ls hl => ?_)
  refine lv_iconst (v := 0) hx hb dX6_howManyIn_2 (by decide) ?_
  refine lv_istore_n (lv' := [(3, .int 0), (2, .int 0), (0, .long a0)]) hx hb dX6_howManyIn_3 rfl hl (by decide) rfl (fun ls hl => ?_)
  refine xj (fun (x15 : Int32) => ∀ (H : Heap) (locs : List Loc) (ls : Array Slot), va_P G.1 vwCl (wl G M h) H → va_S (Aw G) s.heap H locs → lv_has ls 4 [(2, .int x15)] → W p l e rm_X6_howManyIn s m args below meth c H locs 0 0 Q (F0 m 27 ls [])) hf ?_ (fun hf => ?_)
  · rintro x15 hf H locs ls hP hS hl
    refine lv_iload_n hx hb dX6_howManyIn_27 rfl (lv_at hl 0 rfl) ?_
    exact hret _ _ _ _ _ (OB_some hf) hP hS dX6_howManyIn_28
  · refine (it_W (fun (zz : (Int32 × Int32)) => match zz with | (x13, x14) => ∀ (H : Heap) (locs : List Loc) (ls : Array Slot), va_P G.1 vwCl (wl G M h) H → va_S (Aw G) s.heap H locs → lv_has ls 4 [(0, .long a0), (2, .int x13), (3, .int x14)] → W p l e rm_X6_howManyIn s m args below meth c H locs 0 0 Q (F0 m 4 ls [])) hf ?_) _ _ _ hP hS (lv_sub hl [2, 1, 0] rfl)
    rintro ⟨x13, x14⟩ hf H locs ls hP hS hl
    unfold f_X6_howManyIn_b4 at hf
    refine lv_iload_n hx hb dX6_howManyIn_4 rfl (lv_at hl 2 rfl) ?_
    refine lv_bipush (v := 8) hx hb dX6_howManyIn_5 (by decide) ?_
    refine lv_icmp_ge (tgt := 27) hx hb dX6_howManyIn_7 (by decide) (fun hc => ?_) (fun hc => ?_)
    · have hf := (OB_t hf hc)
      exact (it_e hf) _ _ _ hP hS (lv_sub hl [1] rfl)
    · have hf := (OB_f hf hc)
      refine lv_lload_n hx hb dX6_howManyIn_10 rfl (lv_at hl 0 rfl) ?_
      refine lv_iload_n hx hb dX6_howManyIn_11 rfl (lv_at hl 2 rfl) ?_
      refine x_ci0 (rest := []) (x_runS C hE hP hS ykX6_byteOf lkX6_21 (c_X6_byteOf (OB_bind hf)) (by decide) rfl hl.1 (Nat.le_of_ble_eq_true rfl) dX6_howManyIn_12) hS (fun r16 H locs hf hP hS => ?_)
      refine xj (fun (x17 : Int32) => ∀ (H : Heap) (locs : List Loc) (ls : Array Slot), va_P G.1 vwCl (wl G M h) H → va_S (Aw G) s.heap H locs → lv_has ls 4 [(0, .long a0), (2, .int x17), (3, .int x14)] → W p l e rm_X6_howManyIn s m args below meth c H locs 0 0 Q (F0 m 21 ls [])) hf ?_ (fun hf => ?_)
      · rintro x17 hf H locs ls hP hS hl
        refine lv_iinc (v := (x14 + 1)) (lv' := [(3, .int (x14 + 1)), (0, .long a0), (2, .int x17)]) hx hb dX6_howManyIn_21 hl (k := 2) rfl rfl (by decide) rfl (fun ls hl => ?_)
        refine lv_goto (tgt := 4) hx hb dX6_howManyIn_24 (by decide) ?_
        exact (it_c hf) _ _ _ hP hS (lv_sub hl [1, 2, 0] rfl)
      · skip
        refine lv_if_eq (tgt := 21) hx hb dX6_howManyIn_15 (by decide) (fun hc => ?_) (fun hc => ?_)
        · have hf := (OB_t hf hc)
          exact (OB_some hf) _ _ _ hP hS (lv_sub hl [0, 1, 2] rfl)
        · have hf := (OB_f hf hc)
          refine lv_iinc (v := (x13 + 1)) (lv' := [(2, .int (x13 + 1)), (0, .long a0), (3, .int x14)]) hx hb dX6_howManyIn_18 hl (k := 1) rfl rfl (by decide) rfl (fun ls hl => ?_)
          exact (OB_some hf) _ _ _ hP hS (lv_sub hl [1, 0, 2] rfl)
def rm_X6_hasRoomFor : Room := { frames := 2, cells := 0, slots := 0, locals := 45 }
set_option maxRecDepth 100000 in
set_option maxHeartbeats 8000000 in
theorem c_X6_hasRoomFor {l : Launch} {G : GG} {a1 : Int64} {M : Mem} {h : Int64}  {P9 : Bool → Prop} (hf : OB (f_X6_hasRoomFor a1 M) P9) : Met1 l yX6_hasRoomFor cX6_hasRoomFor 3 (some .boolean) rm_X6_hasRoomFor G [.ref (xa G 10), .long a1] M h (QZ0 G M h P9) := by
  unfold f_X6_hasRoomFor at hf
  refine xm_z0 (by decide) (Nat.le_of_ble_eq_true rfl) ?_
  intro p e s m args below meth c ls Q C hE hret hP hS hl
  have C : CallFix p m c cX6_hasRoomFor 3 s args TB RX6 := C
  have hx := C.1
  have hb := C.2.1
  have hl : lv_has ls 3 [(0, .ref (xa G 10)), (1, .long a1)] := hl
  refine lv_aload_n hx hb dX6_hasRoomFor_0 rfl (lv_at hl 0 rfl) ?_
  refine gfX6_15 C hE hP dX6_hasRoomFor_1 ?_
  refine lv_lload_n hx hb dX6_hasRoomFor_4 rfl (lv_at hl 1 rfl) ?_
  refine x_ci0 (rest := [.int (M 10 1)]) (x_runS C hE hP hS ykX6_howManyIn lkX6_25 (c_X6_howManyIn (OB_bind hf)) (by decide) rfl hl.1 (Nat.le_of_ble_eq_true rfl) dX6_hasRoomFor_5) hS (fun r1 H locs hf hP hS => ?_)
  refine lv_iadd hx hb dX6_hasRoomFor_8 ?_
  refine lv_bipush (v := 50) hx hb dX6_hasRoomFor_9 (by decide) ?_
  refine xj (fun (x2 : Bool) => ∀ (H : Heap) (locs : List Loc) (ls : Array Slot), va_P G.1 vwCl (wl G M h) H → va_S (Aw G) s.heap H locs → lv_has ls 3 [] → W p l e rm_X6_hasRoomFor s m args below meth c H locs 0 0 Q (F0 m 19 ls [.int (bI x2)])) hf ?_ (fun hf => ?_)
  · rintro x2 hf H locs ls hP hS hl
    exact hret _ _ _ _ _ (OB_some hf) hP hS dX6_hasRoomFor_19
  · skip
    refine lv_icmp_gt (tgt := 18) hx hb dX6_hasRoomFor_11 (by decide) (fun hc => ?_) (fun hc => ?_)
    · have hf := (OB_t hf hc)
      refine lv_iconst (v := 0) hx hb dX6_hasRoomFor_18 (by decide) ?_
      refine W.eq (g2 := F0 m 19 ls [.int (bI false)]) rfl ?_
      exact (OB_some hf) _ _ _ hP hS (lv_sub hl [] rfl)
    · have hf := (OB_f hf hc)
      refine lv_iconst (v := 1) hx hb dX6_hasRoomFor_14 (by decide) ?_
      refine lv_goto (tgt := 19) hx hb dX6_hasRoomFor_15 (by decide) ?_
      refine W.eq (g2 := F0 m 19 ls [.int (bI true)]) rfl ?_
      exact (OB_some hf) _ _ _ hP hS (lv_sub hl [] rfl)
def rm_X6_write : Room := { frames := 2, cells := 0, slots := 0, locals := 45 }
set_option maxRecDepth 100000 in
set_option maxHeartbeats 8000000 in
theorem c_X6_write {l : Launch} {G : GG} {a1 : Int64} {M : Mem} {h : Int64}  {P9 : (Int32 × Mem) → Prop} (hf : OB (f_X6_write a1 M) P9) : Met1 l yX6_write cX6_write 5 (some .int) rm_X6_write G [.ref (xa G 10), .long a1] M h (QI1 G h P9) := by
  unfold f_X6_write at hf
  refine xm_i1 (by decide) (Nat.le_of_ble_eq_true rfl) ?_
  intro p e s m args below meth c ls Q C hE hret hP hS hl
  have C : CallFix p m c cX6_write 5 s args TB RX6 := C
  have hx := C.1
  have hb := C.2.1
  have hl : lv_has ls 5 [(0, .ref (xa G 10)), (1, .long a1)] := hl
  refine lv_lload_n hx hb dX6_write_0 rfl (lv_at hl 1 rfl) ?_
  refine x_ci0 (rest := []) (x_runS C hE hP hS ykX6_howManyIn lkX6_25 (c_X6_howManyIn (OB_bind hf)) (by decide) rfl hl.1 (Nat.le_of_ble_eq_true rfl) dX6_write_1) hS (fun r1 H locs hf hP hS => ?_)
  refine lv_istore_n (lv' := [(3, .int r1), (0, .ref (xa G 10)), (1, .long a1)]) hx hb dX6_write_4 rfl hl (by decide) rfl (fun ls hl => ?_)
  refine lv_iconst (v := 0) hx hb dX6_write_5 (by decide) ?_
  refine lv_istore (lv' := [(4, .int 0), (3, .int r1), (0, .ref (xa G 10)), (1, .long a1)]) hx hb dX6_write_6 hl (by decide) rfl (fun ls hl => ?_)
  refine xj (fun (M12 : Mem) => ∀ (H : Heap) (locs : List Loc) (ls : Array Slot), va_P G.1 vwCl (wl G M12 h) H → va_S (Aw G) s.heap H locs → lv_has ls 5 [(0, .ref (xa G 10)), (3, .int r1)] → W p l e rm_X6_write s m args below meth c H locs 0 0 Q (F0 m 38 ls [])) hf ?_ (fun hf => ?_)
  · rintro M12 hf H locs ls hP hS hl
    refine lv_aload_n hx hb dX6_write_38 rfl (lv_at hl 0 rfl) ?_
    refine lv_dup hx hb dX6_write_39 rfl ?_
    refine gfX6_15 C hE hP dX6_write_40 ?_
    refine lv_iload_n hx hb dX6_write_43 rfl (lv_at hl 1 rfl) ?_
    refine lv_iadd hx hb dX6_write_44 ?_
    refine pfX6_15 C hE hP hS dX6_write_45 (fun H locs hP hS => ?_)
    refine lv_aload_n hx hb dX6_write_48 rfl (lv_at hl 0 rfl) ?_
    refine gfX6_15 C hE hP dX6_write_49 ?_
    exact hret _ _ _ _ _ _ (OB_some hf) hP hS dX6_write_52
  · refine (it_W (fun (zz : (Int32 × Mem)) => match zz with | (x10, M11) => ∀ (H : Heap) (locs : List Loc) (ls : Array Slot), va_P G.1 vwCl (wl G M11 h) H → va_S (Aw G) s.heap H locs → lv_has ls 5 [(0, .ref (xa G 10)), (1, .long a1), (3, .int r1), (4, .int x10)] → W p l e rm_X6_write s m args below meth c H locs 0 0 Q (F0 m 8 ls [])) hf ?_) _ _ _ hP hS (lv_sub hl [2, 3, 1, 0] rfl)
    rintro ⟨x10, M11⟩ hf H locs ls hP hS hl
    unfold f_X6_write_b8 at hf
    refine lv_iload hx hb dX6_write_8 (lv_at hl 3 rfl) ?_
    refine lv_iload_n hx hb dX6_write_10 rfl (lv_at hl 2 rfl) ?_
    refine lv_icmp_ge (tgt := 38) hx hb dX6_write_11 (by decide) (fun hc => ?_) (fun hc => ?_)
    · have hf := (OB_t hf hc)
      exact (it_e hf) _ _ _ hP hS (lv_sub hl [0, 2] rfl)
    · have hf := (OB_f hf hc)
      refine lv_aload_n hx hb dX6_write_14 rfl (lv_at hl 0 rfl) ?_
      refine gfX6_11 C hE hP dX6_write_15 ?_
      refine lv_aload_n hx hb dX6_write_18 rfl (lv_at hl 0 rfl) ?_
      refine gfX6_15 C hE hP dX6_write_19 ?_
      refine lv_iload hx hb dX6_write_22 (lv_at hl 3 rfl) ?_
      refine lv_iadd hx hb dX6_write_24 ?_
      refine lv_lload_n hx hb dX6_write_25 rfl (lv_at hl 1 rfl) ?_
      refine lv_iload hx hb dX6_write_26 (lv_at hl 3 rfl) ?_
      refine x_ci0 (rest := [.int ((M11 10 1) + x10), .ref (xa G 11)]) (x_runS C hE hP hS ykX6_byteOf lkX6_21 (c_X6_byteOf (OB_bind hf)) (by decide) rfl hl.1 (Nat.le_of_ble_eq_true rfl) dX6_write_28) hS (fun r13 H locs hf hP hS => ?_)
      obtain ⟨g14, hf⟩ := OB_g hf
      refine x_iast C hE hP hS sh11 g14 dX6_write_31 (fun H locs hP hS => ?_)
      refine lv_iinc (v := (x10 + 1)) (lv' := [(4, .int (x10 + 1)), (0, .ref (xa G 10)), (1, .long a1), (3, .int r1)]) hx hb dX6_write_32 hl (k := 3) rfl rfl (by decide) rfl (fun ls hl => ?_)
      refine lv_goto (tgt := 8) hx hb dX6_write_35 (by decide) ?_
      exact (it_c hf) _ _ _ hP hS (lv_sub hl [1, 2, 3, 0] rfl)
def rm_X6_wipe : Room := { frames := 0, cells := 0, slots := 0, locals := 0 }
set_option maxRecDepth 100000 in
set_option maxHeartbeats 8000000 in
theorem c_X6_wipe {l : Launch} {G : GG}  {M : Mem} {h : Int64}  {P9 : (Int32 × Mem) → Prop} (hf : OB (f_X6_wipe M) P9) : Met1 l yX6_wipe cX6_wipe 2 (some .int) rm_X6_wipe G [.ref (xa G 10)] M h (QI1 G h P9) := by
  unfold f_X6_wipe at hf
  refine xm_i1 (by decide) (Nat.le_of_ble_eq_true rfl) ?_
  intro p e s m args below meth c ls Q C hE hret hP hS hl
  have C : CallFix p m c cX6_wipe 2 s args TB RX6 := C
  have hx := C.1
  have hb := C.2.1
  have hl : lv_has ls 2 [(0, .ref (xa G 10))] := hl
  refine lv_aload_n hx hb dX6_wipe_0 rfl (lv_at hl 0 rfl) ?_
  refine gfX6_15 C hE hP dX6_wipe_1 ?_
  refine lv_istore_n (lv' := [(1, .int (M 10 1)), (0, .ref (xa G 10))]) hx hb dX6_wipe_4 rfl hl (by decide) rfl (fun ls hl => ?_)
  refine lv_aload_n hx hb dX6_wipe_5 rfl (lv_at hl 1 rfl) ?_
  refine lv_iconst (v := 0) hx hb dX6_wipe_6 (by decide) ?_
  refine pfX6_15 C hE hP hS dX6_wipe_7 (fun H locs hP hS => ?_)
  refine lv_iload_n hx hb dX6_wipe_10 rfl (lv_at hl 0 rfl) ?_
  exact hret _ _ _ _ _ _ (OB_some hf) hP hS dX6_wipe_11
def rm_X6_faultPlace : Room := { frames := 6, cells := 0, slots := 0, locals := 133 }
set_option maxRecDepth 100000 in
set_option maxHeartbeats 8000000 in
theorem c_X6_faultPlace {l : Launch} {G : GG}  {M : Mem} {h : Int64}  {P9 : Int32 → Prop} (hf : OB (f_X6_faultPlace M) P9) : Met1 l yX6_faultPlace cX6_faultPlace 3 (some .int) rm_X6_faultPlace G [.ref (xa G 10)] M h (QI0 G M h P9) := by
  unfold f_X6_faultPlace at hf
  refine xm_i0 (by decide) (Nat.le_of_ble_eq_true rfl) ?_
  intro p e s m args below meth c ls Q C hE hret hP hS hl
  have C : CallFix p m c cX6_faultPlace 3 s args TB RX6 := C
  have hx := C.1
  have hb := C.2.1
  have hl : lv_has ls 3 [(0, .ref (xa G 10))] := hl
  refine lv_iconst (v := 0) hx hb dX6_faultPlace_0 (by decide) ?_
  refine lv_istore_n (lv' := [(1, .int 0), (0, .ref (xa G 10))]) hx hb dX6_faultPlace_1 rfl hl (by decide) rfl (fun ls hl => ?_)
  refine lv_iconst (v := 0) hx hb dX6_faultPlace_2 (by decide) ?_
  refine lv_istore_n (lv' := [(2, .int 0), (1, .int 0), (0, .ref (xa G 10))]) hx hb dX6_faultPlace_3 rfl hl (by decide) rfl (fun ls hl => ?_)
  refine xj (it_P (fun (_ : Unit) => ∀ (H : Heap) (locs : List Loc) (ls : Array Slot), va_P G.1 vwCl (wl G M h) H → va_S (Aw G) s.heap H locs → lv_has ls 3 [(0, .ref (xa G 10))] → W p l e rm_X6_faultPlace s m args below meth c H locs 0 0 Q (F0 m 36 ls [])) P9) hf ?_ (fun hf => ?_)
  · rintro (_ | v) hf
    · intro H locs ls hP hS hl
      refine lv_aload_n hx hb dX6_faultPlace_36 rfl (lv_at hl 0 rfl) ?_
      refine gfX6_15 C hE hP dX6_faultPlace_37 ?_
      exact hret _ _ _ _ _ (OB_some hf) hP hS dX6_faultPlace_40
    · exact it_q hf
  · refine (it_W (fun (zz : (Int32 × Int32)) => match zz with | (x9, x10) => ∀ (H : Heap) (locs : List Loc) (ls : Array Slot), va_P G.1 vwCl (wl G M h) H → va_S (Aw G) s.heap H locs → lv_has ls 3 [(0, .ref (xa G 10)), (1, .int x9), (2, .int x10)] → W p l e rm_X6_faultPlace s m args below meth c H locs 0 0 Q (F0 m 4 ls [])) hf ?_) _ _ _ hP hS (lv_sub hl [2, 1, 0] rfl)
    rintro ⟨x9, x10⟩ hf H locs ls hP hS hl
    unfold f_X6_faultPlace_b4 at hf
    refine lv_iload_n hx hb dX6_faultPlace_4 rfl (lv_at hl 2 rfl) ?_
    refine lv_aload_n hx hb dX6_faultPlace_5 rfl (lv_at hl 0 rfl) ?_
    refine gfX6_15 C hE hP dX6_faultPlace_6 ?_
    refine lv_icmp_ge (tgt := 36) hx hb dX6_faultPlace_9 (by decide) (fun hc => ?_) (fun hc => ?_)
    · have hf := (OB_t hf hc)
      exact (it_e hf) _ _ _ hP hS (lv_sub hl [0] rfl)
    · have hf := (OB_f hf hc)
      refine lv_iload_n hx hb dX6_faultPlace_12 rfl (lv_at hl 1 rfl) ?_
      refine lv_aload_n hx hb dX6_faultPlace_13 rfl (lv_at hl 0 rfl) ?_
      refine gfX6_11 C hE hP dX6_faultPlace_14 ?_
      refine lv_iload_n hx hb dX6_faultPlace_17 rfl (lv_at hl 2 rfl) ?_
      obtain ⟨g11, hf⟩ := OB_g hf
      refine x_iald C hE hP sh11 g11 dX6_faultPlace_18 ?_
      refine x_ci0 (rest := []) (x_runS C hE hP hS ykX6_next lkX6_29 (c_X6_next (OB_bind hf)) (by decide) rfl hl.1 (Nat.le_of_ble_eq_true rfl) dX6_faultPlace_19) hS (fun r12 H locs hf hP hS => ?_)
      refine lv_istore_n (lv' := [(1, .int r12), (0, .ref (xa G 10)), (2, .int x10)]) hx hb dX6_faultPlace_22 rfl hl (by decide) rfl (fun ls hl => ?_)
      refine lv_iload_n hx hb dX6_faultPlace_23 rfl (lv_at hl 0 rfl) ?_
      refine lv_iconst (v := -1) hx hb dX6_faultPlace_24 (by decide) ?_
      refine lv_icmp_ne (tgt := 30) hx hb dX6_faultPlace_25 (by decide) (fun hc => ?_) (fun hc => ?_)
      · have hf := (OB_f hf hc)
        refine lv_iinc (v := (x10 + 1)) (lv' := [(2, .int (x10 + 1)), (1, .int r12), (0, .ref (xa G 10))]) hx hb dX6_faultPlace_30 hl (k := 2) rfl rfl (by decide) rfl (fun ls hl => ?_)
        refine lv_goto (tgt := 4) hx hb dX6_faultPlace_33 (by decide) ?_
        exact (it_c hf) _ _ _ hP hS (lv_sub hl [2, 1, 0] rfl)
      · have hf := (OB_t hf hc)
        refine lv_iload_n hx hb dX6_faultPlace_28 rfl (lv_at hl 2 rfl) ?_
        exact hret _ _ _ _ _ (it_r hf) hP hS dX6_faultPlace_29
def rm_X6_isLaw : Room := { frames := 6, cells := 0, slots := 0, locals := 133 }
set_option maxRecDepth 100000 in
set_option maxHeartbeats 8000000 in
theorem c_X6_isLaw {l : Launch} {G : GG}  {M : Mem} {h : Int64}  {P9 : Bool → Prop} (hf : OB (f_X6_isLaw M) P9) : Met1 l yX6_isLaw cX6_isLaw 3 (some .boolean) rm_X6_isLaw G [.ref (xa G 10)] M h (QZ0 G M h P9) := by
  unfold f_X6_isLaw at hf
  refine xm_z0 (by decide) (Nat.le_of_ble_eq_true rfl) ?_
  intro p e s m args below meth c ls Q C hE hret hP hS hl
  have C : CallFix p m c cX6_isLaw 3 s args TB RX6 := C
  have hx := C.1
  have hb := C.2.1
  have hl : lv_has ls 3 [(0, .ref (xa G 10))] := hl
  refine lv_iconst (v := 0) hx hb dX6_isLaw_0 (by decide) ?_
  refine lv_istore_n (lv' := [(1, .int 0), (0, .ref (xa G 10))]) hx hb dX6_isLaw_1 rfl hl (by decide) rfl (fun ls hl => ?_)
  refine lv_iconst (v := 0) hx hb dX6_isLaw_2 (by decide) ?_
  refine lv_istore_n (lv' := [(2, .int 0), (1, .int 0), (0, .ref (xa G 10))]) hx hb dX6_isLaw_3 rfl hl (by decide) rfl (fun ls hl => ?_)
  refine xj (fun (x15 : Int32) => ∀ (H : Heap) (locs : List Loc) (ls : Array Slot), va_P G.1 vwCl (wl G M h) H → va_S (Aw G) s.heap H locs → lv_has ls 3 [(1, .int x15)] → W p l e rm_X6_isLaw s m args below meth c H locs 0 0 Q (F0 m 29 ls [])) hf ?_ (fun hf => ?_)
  · rintro x15 hf H locs ls hP hS hl
    refine lv_iload_n hx hb dX6_isLaw_29 rfl (lv_at hl 0 rfl) ?_
    refine lv_iconst (v := 3) hx hb dX6_isLaw_30 (by decide) ?_
    refine xj (fun (x18 : Bool) => ∀ (H : Heap) (locs : List Loc) (ls : Array Slot), va_P G.1 vwCl (wl G M h) H → va_S (Aw G) s.heap H locs → lv_has ls 3 [] → W p l e rm_X6_isLaw s m args below meth c H locs 0 0 Q (F0 m 56 ls [.int (bI x18)])) hf ?_ (fun hf => ?_)
    · rintro x18 hf H locs ls hP hS hl
      exact hret _ _ _ _ _ (OB_some hf) hP hS dX6_isLaw_56
    · skip
      refine lv_icmp_eq (tgt := 51) hx hb dX6_isLaw_31 (by decide) (fun hc => ?_) (fun hc => ?_)
      · have hf := (OB_t hf hc)
        refine lv_iconst (v := 1) hx hb dX6_isLaw_51 (by decide) ?_
        refine lv_goto (tgt := 56) hx hb dX6_isLaw_52 (by decide) ?_
        refine W.eq (g2 := F0 m 56 ls [.int (bI true)]) rfl ?_
        exact (OB_some hf) _ _ _ hP hS (lv_sub hl [] rfl)
      · have hf := (OB_f hf hc)
        refine lv_iload_n hx hb dX6_isLaw_34 rfl (lv_at hl 0 rfl) ?_
        refine lv_iconst (v := 4) hx hb dX6_isLaw_35 (by decide) ?_
        refine lv_icmp_eq (tgt := 51) hx hb dX6_isLaw_36 (by decide) (fun hc => ?_) (fun hc => ?_)
        · have hf := (OB_t hf hc)
          refine lv_iconst (v := 1) hx hb dX6_isLaw_51 (by decide) ?_
          refine lv_goto (tgt := 56) hx hb dX6_isLaw_52 (by decide) ?_
          refine W.eq (g2 := F0 m 56 ls [.int (bI true)]) rfl ?_
          exact (OB_some hf) _ _ _ hP hS (lv_sub hl [] rfl)
        · have hf := (OB_f hf hc)
          refine lv_iload_n hx hb dX6_isLaw_39 rfl (lv_at hl 0 rfl) ?_
          refine lv_bipush (v := 8) hx hb dX6_isLaw_40 (by decide) ?_
          refine lv_icmp_eq (tgt := 51) hx hb dX6_isLaw_42 (by decide) (fun hc => ?_) (fun hc => ?_)
          · have hf := (OB_t hf hc)
            refine lv_iconst (v := 1) hx hb dX6_isLaw_51 (by decide) ?_
            refine lv_goto (tgt := 56) hx hb dX6_isLaw_52 (by decide) ?_
            refine W.eq (g2 := F0 m 56 ls [.int (bI true)]) rfl ?_
            exact (OB_some hf) _ _ _ hP hS (lv_sub hl [] rfl)
          · have hf := (OB_f hf hc)
            refine lv_iload_n hx hb dX6_isLaw_45 rfl (lv_at hl 0 rfl) ?_
            refine lv_bipush (v := 9) hx hb dX6_isLaw_46 (by decide) ?_
            refine lv_icmp_ne (tgt := 55) hx hb dX6_isLaw_48 (by decide) (fun hc => ?_) (fun hc => ?_)
            · have hf := (OB_f hf hc)
              refine lv_iconst (v := 0) hx hb dX6_isLaw_55 (by decide) ?_
              refine W.eq (g2 := F0 m 56 ls [.int (bI false)]) rfl ?_
              exact (OB_some hf) _ _ _ hP hS (lv_sub hl [] rfl)
            · have hf := (OB_t hf hc)
              refine lv_iconst (v := 1) hx hb dX6_isLaw_51 (by decide) ?_
              refine lv_goto (tgt := 56) hx hb dX6_isLaw_52 (by decide) ?_
              refine W.eq (g2 := F0 m 56 ls [.int (bI true)]) rfl ?_
              exact (OB_some hf) _ _ _ hP hS (lv_sub hl [] rfl)
  · refine (it_W (fun (zz : (Int32 × Int32)) => match zz with | (x13, x14) => ∀ (H : Heap) (locs : List Loc) (ls : Array Slot), va_P G.1 vwCl (wl G M h) H → va_S (Aw G) s.heap H locs → lv_has ls 3 [(0, .ref (xa G 10)), (1, .int x13), (2, .int x14)] → W p l e rm_X6_isLaw s m args below meth c H locs 0 0 Q (F0 m 4 ls [])) hf ?_) _ _ _ hP hS (lv_sub hl [2, 1, 0] rfl)
    rintro ⟨x13, x14⟩ hf H locs ls hP hS hl
    unfold f_X6_isLaw_b4 at hf
    refine lv_iload_n hx hb dX6_isLaw_4 rfl (lv_at hl 2 rfl) ?_
    refine lv_aload_n hx hb dX6_isLaw_5 rfl (lv_at hl 0 rfl) ?_
    refine gfX6_15 C hE hP dX6_isLaw_6 ?_
    refine lv_icmp_ge (tgt := 29) hx hb dX6_isLaw_9 (by decide) (fun hc => ?_) (fun hc => ?_)
    · have hf := (OB_t hf hc)
      exact (it_e hf) _ _ _ hP hS (lv_sub hl [1] rfl)
    · have hf := (OB_f hf hc)
      refine lv_iload_n hx hb dX6_isLaw_12 rfl (lv_at hl 1 rfl) ?_
      refine lv_aload_n hx hb dX6_isLaw_13 rfl (lv_at hl 0 rfl) ?_
      refine gfX6_11 C hE hP dX6_isLaw_14 ?_
      refine lv_iload_n hx hb dX6_isLaw_17 rfl (lv_at hl 2 rfl) ?_
      obtain ⟨g16, hf⟩ := OB_g hf
      refine x_iald C hE hP sh11 g16 dX6_isLaw_18 ?_
      refine x_ci0 (rest := []) (x_runS C hE hP hS ykX6_next lkX6_29 (c_X6_next (OB_bind hf)) (by decide) rfl hl.1 (Nat.le_of_ble_eq_true rfl) dX6_isLaw_19) hS (fun r17 H locs hf hP hS => ?_)
      refine lv_istore_n (lv' := [(1, .int r17), (0, .ref (xa G 10)), (2, .int x14)]) hx hb dX6_isLaw_22 rfl hl (by decide) rfl (fun ls hl => ?_)
      refine lv_iinc (v := (x14 + 1)) (lv' := [(2, .int (x14 + 1)), (1, .int r17), (0, .ref (xa G 10))]) hx hb dX6_isLaw_23 hl (k := 2) rfl rfl (by decide) rfl (fun ls hl => ?_)
      refine lv_goto (tgt := 4) hx hb dX6_isLaw_26 (by decide) ?_
      exact (it_c hf) _ _ _ hP hS (lv_sub hl [2, 1, 0] rfl)
def rm_X6_told : Room := { frames := 1, cells := 0, slots := 0, locals := 23 }
set_option maxRecDepth 100000 in
set_option maxHeartbeats 8000000 in
theorem c_X6_told {l : Launch} {G : GG} {a1 : Int64} {M : Mem} {h : Int64}  {P9 : Int64 → Prop} (hf : OB (f_X6_told a1 M) P9) : Met1 l yX6_told cX6_told 4 (some .long) rm_X6_told G [.ref (xa G 10), .long a1] M h (QL0 G M h P9) := by
  unfold f_X6_told at hf
  refine xm_l0 (by decide) (Nat.le_of_ble_eq_true rfl) ?_
  intro p e s m args below meth c ls Q C hE hret hP hS hl
  have C : CallFix p m c cX6_told 4 s args TB RX6 := C
  have hx := C.1
  have hb := C.2.1
  have hl : lv_has ls 4 [(0, .ref (xa G 10)), (1, .long a1)] := hl
  refine lv_iconst (v := 0) hx hb dX6_told_0 (by decide) ?_
  refine lv_istore_n (lv' := [(3, .int 0), (0, .ref (xa G 10)), (1, .long a1)]) hx hb dX6_told_1 rfl hl (by decide) rfl (fun ls hl => ?_)
  refine xj (fun (x11 : Int64) => ∀ (H : Heap) (locs : List Loc) (ls : Array Slot), va_P G.1 vwCl (wl G M h) H → va_S (Aw G) s.heap H locs → lv_has ls 4 [(1, .long x11)] → W p l e rm_X6_told s m args below meth c H locs 0 0 Q (F0 m 28 ls [])) hf ?_ (fun hf => ?_)
  · rintro x11 hf H locs ls hP hS hl
    refine lv_lload_n hx hb dX6_told_28 rfl (lv_at hl 0 rfl) ?_
    exact hret _ _ _ _ _ (OB_some hf) hP hS dX6_told_29
  · refine (it_W (fun (zz : (Int64 × Int32)) => match zz with | (x9, x10) => ∀ (H : Heap) (locs : List Loc) (ls : Array Slot), va_P G.1 vwCl (wl G M h) H → va_S (Aw G) s.heap H locs → lv_has ls 4 [(0, .ref (xa G 10)), (1, .long x9), (3, .int x10)] → W p l e rm_X6_told s m args below meth c H locs 0 0 Q (F0 m 2 ls [])) hf ?_) _ _ _ hP hS (lv_sub hl [1, 2, 0] rfl)
    rintro ⟨x9, x10⟩ hf H locs ls hP hS hl
    unfold f_X6_told_b2 at hf
    refine lv_iload_n hx hb dX6_told_2 rfl (lv_at hl 2 rfl) ?_
    refine lv_aload_n hx hb dX6_told_3 rfl (lv_at hl 0 rfl) ?_
    refine gfX6_15 C hE hP dX6_told_4 ?_
    refine lv_icmp_ge (tgt := 28) hx hb dX6_told_7 (by decide) (fun hc => ?_) (fun hc => ?_)
    · have hf := (OB_t hf hc)
      exact (it_e hf) _ _ _ hP hS (lv_sub hl [1] rfl)
    · have hf := (OB_f hf hc)
      refine lv_lload_n hx hb dX6_told_10 rfl (lv_at hl 1 rfl) ?_
      refine lv_aload_n hx hb dX6_told_11 rfl (lv_at hl 0 rfl) ?_
      refine gfX6_11 C hE hP dX6_told_12 ?_
      refine lv_iload_n hx hb dX6_told_15 rfl (lv_at hl 2 rfl) ?_
      obtain ⟨g12, hf⟩ := OB_g hf
      refine x_iald C hE hP sh11 g12 dX6_told_16 ?_
      refine lv_i2l hx hb dX6_told_17 rfl ?_
      refine x_cl0 (rest := []) (x_runSN C hE hP hS ykX11_then lkX6_61 (c_X11_then (OB_bind hf)) (by decide) rfl hl.1 (Nat.le_of_ble_eq_true rfl) dX6_told_18) hS (fun r13 H locs hf hP hS => ?_)
      refine lv_lstore_n (lv' := [(1, .long r13), (0, .ref (xa G 10)), (3, .int x10)]) hx hb dX6_told_21 rfl hl (by decide) rfl (fun ls hl => ?_)
      refine lv_iinc (v := (x10 + 1)) (lv' := [(3, .int (x10 + 1)), (1, .long r13), (0, .ref (xa G 10))]) hx hb dX6_told_22 hl (k := 2) rfl rfl (by decide) rfl (fun ls hl => ?_)
      refine lv_goto (tgt := 2) hx hb dX6_told_25 (by decide) ?_
      exact (it_c hf) _ _ _ hP hS (lv_sub hl [2, 1, 0] rfl)
def rm_X11_stepsBetween : Room := { frames := 2, cells := 0, slots := 0, locals := 43 }
set_option maxRecDepth 100000 in
set_option maxHeartbeats 8000000 in
theorem c_X11_stepsBetween {l : Launch} {G : GG} {a0 : Int32} {a1 : Int32} {M : Mem} {h : Int64}  {P9 : Int32 → Prop} (hf : OB (f_X11_stepsBetween a0 a1) P9) : Met1 l yX11_stepsBetween cX11_stepsBetween 2 (some .int) rm_X11_stepsBetween G [.int a0, .int a1] M h (QI0 G M h P9) := by
  unfold f_X11_stepsBetween at hf
  refine xm_i0 (by decide) (Nat.le_of_ble_eq_true rfl) ?_
  intro p e s m args below meth c ls Q C hE hret hP hS hl
  have C : CallFix p m c cX11_stepsBetween 2 s args TB RX11 := C
  have hx := C.1
  have hb := C.2.1
  have hl : lv_has ls 2 [(0, .int a0), (1, .int a1)] := hl
  refine lv_iload_n hx hb dX11_stepsBetween_0 rfl (lv_at hl 0 rfl) ?_
  refine lv_bipush (v := 16) hx hb dX11_stepsBetween_1 (by decide) ?_
  refine lv_idiv hx hb dX11_stepsBetween_3 (by decide) ?_
  refine lv_iload_n hx hb dX11_stepsBetween_4 rfl (lv_at hl 1 rfl) ?_
  refine lv_bipush (v := 16) hx hb dX11_stepsBetween_5 (by decide) ?_
  refine lv_idiv hx hb dX11_stepsBetween_7 (by decide) ?_
  refine lv_isub hx hb dX11_stepsBetween_8 ?_
  refine x_mabs C hl.1 lkX11_361 (by decide) (Nat.le_of_ble_eq_true rfl) dX11_stepsBetween_9 ?_
  refine lv_iload_n hx hb dX11_stepsBetween_12 rfl (lv_at hl 0 rfl) ?_
  refine lv_bipush (v := 16) hx hb dX11_stepsBetween_13 (by decide) ?_
  refine x_irem C dX11_stepsBetween_15 (by decide) ?_
  refine lv_iload_n hx hb dX11_stepsBetween_16 rfl (lv_at hl 1 rfl) ?_
  refine lv_bipush (v := 16) hx hb dX11_stepsBetween_17 (by decide) ?_
  refine x_irem C dX11_stepsBetween_19 (by decide) ?_
  refine x_ci0 (rest := [.int (jabs ((a0 / 16) - (a1 / 16)))]) (x_runS C hE hP hS ykX11_ringDistance lkX11_364 (c_X11_ringDistance (OB_bind hf)) (by decide) rfl hl.1 (Nat.le_of_ble_eq_true rfl) dX11_stepsBetween_20) hS (fun r1 H locs hf hP hS => ?_)
  refine lv_iadd hx hb dX11_stepsBetween_23 ?_
  exact hret _ _ _ _ _ (OB_some hf) hP hS dX11_stepsBetween_24
def rm_X7_ask : Room := { frames := 3, cells := 0, slots := 0, locals := 64 }
set_option maxRecDepth 100000 in
set_option maxHeartbeats 8000000 in
theorem c_X7_ask {l : Launch} {G : GG} {a1 : Int32} {a2 : Int32} {M : Mem} {h : Int64}  {P9 : Mem → Prop} (hf : OB (f_X7_ask a1 a2 M) P9) : Met1 l yX7_ask cX7_ask 6 none rm_X7_ask G [.ref (xa G 129), .int a1, .int a2] M h (QV1 G h P9) := by
  unfold f_X7_ask at hf
  refine xm_v1 (by decide) (Nat.le_of_ble_eq_true rfl) ?_
  intro p e s m args below meth c ls Q C hE hret hP hS hl
  have C : CallFix p m c cX7_ask 6 s args TB RX7 := C
  have hx := C.1
  have hb := C.2.1
  have hl : lv_has ls 6 [(0, .ref (xa G 129)), (1, .int a1), (2, .int a2)] := hl
  refine lv_aload_n hx hb dX7_ask_0 rfl (lv_at hl 0 rfl) ?_
  refine gfX7_15 C hE hP dX7_ask_1 ?_
  refine lv_iload_n hx hb dX7_ask_4 rfl (lv_at hl 1 rfl) ?_
  refine x_ci0 (rest := []) (x_runV C hE hP hS ykX5_cellOf lkX7_57 sh5 rfl (c_X5_cellOf (OB_bind hf)) (by decide) rfl hl.1 (Nat.le_of_ble_eq_true rfl) dX7_ask_5) hS (fun r1 H locs hf hP hS => ?_)
  refine lv_istore_n (lv' := [(3, .int r1), (0, .ref (xa G 129)), (1, .int a1), (2, .int a2)]) hx hb dX7_ask_8 rfl hl (by decide) rfl (fun ls hl => ?_)
  refine lv_iload_n hx hb dX7_ask_9 rfl (lv_at hl 0 rfl) ?_
  refine lv_bipush (v := 16) hx hb dX7_ask_10 (by decide) ?_
  refine lv_idiv hx hb dX7_ask_12 (by decide) ?_
  refine lv_bipush (v := 16) hx hb dX7_ask_13 (by decide) ?_
  refine lv_imul hx hb dX7_ask_15 ?_
  refine lv_iload_n hx hb dX7_ask_16 rfl (lv_at hl 0 rfl) ?_
  refine lv_bipush (v := 16) hx hb dX7_ask_17 (by decide) ?_
  refine x_irem C dX7_ask_19 (by decide) ?_
  refine lv_iload_n hx hb dX7_ask_20 rfl (lv_at hl 3 rfl) ?_
  refine x_ci0 (rest := [.int ((r1 / 16) * 16)]) (x_runSN C hE hP hS ykX11_eastOf lkX7_60 (c_X11_eastOf (OB_bind hf)) (by decide) rfl hl.1 (Nat.le_of_ble_eq_true rfl) dX7_ask_21) hS (fun r2 H locs hf hP hS => ?_)
  refine lv_iadd hx hb dX7_ask_24 ?_
  refine lv_istore (lv' := [(4, .int (((r1 / 16) * 16) + r2)), (3, .int r1), (0, .ref (xa G 129)), (1, .int a1), (2, .int a2)]) hx hb dX7_ask_25 hl (by decide) rfl (fun ls hl => ?_)
  refine lv_iconst (v := 0) hx hb dX7_ask_27 (by decide) ?_
  refine lv_istore (lv' := [(5, .int 0), (4, .int (((r1 / 16) * 16) + r2)), (3, .int r1), (0, .ref (xa G 129)), (1, .int a1), (2, .int a2)]) hx hb dX7_ask_28 hl (by decide) rfl (fun ls hl => ?_)
  refine xj (fun (M21 : Mem) => ∀ (H : Heap) (locs : List Loc) (ls : Array Slot), va_P G.1 vwCl (wl G M21 h) H → va_S (Aw G) s.heap H locs → lv_has ls 6 [] → W p l e rm_X7_ask s m args below meth c H locs 0 0 Q (F0 m 73 ls [])) hf ?_ (fun hf => ?_)
  · rintro M21 hf H locs ls hP hS hl
    exact hret _ _ _ _ _ (OB_some hf) hP hS dX7_ask_73
  · refine (it_W (fun (zz : (Int32 × Mem)) => match zz with | (x19, M20) => ∀ (H : Heap) (locs : List Loc) (ls : Array Slot), va_P G.1 vwCl (wl G M20 h) H → va_S (Aw G) s.heap H locs → lv_has ls 6 [(0, .ref (xa G 129)), (1, .int a1), (4, .int (((r1 / 16) * 16) + r2)), (5, .int x19)] → W p l e rm_X7_ask s m args below meth c H locs 0 0 Q (F0 m 30 ls [])) hf ?_) _ _ _ hP hS (lv_sub hl [3, 4, 1, 0] rfl)
    rintro ⟨x19, M20⟩ hf H locs ls hP hS hl
    unfold f_X7_ask_b30 at hf
    refine lv_iload hx hb dX7_ask_30 (lv_at hl 3 rfl) ?_
    refine lv_sipush (v := 128) hx hb dX7_ask_32 (by decide) ?_
    refine lv_icmp_ge (tgt := 73) hx hb dX7_ask_35 (by decide) (fun hc => ?_) (fun hc => ?_)
    · have hf := (OB_t hf hc)
      exact (it_e hf) _ _ _ hP hS (lv_sub hl [] rfl)
    · have hf := (OB_f hf hc)
      refine lv_iload hx hb dX7_ask_38 (lv_at hl 2 rfl) ?_
      refine lv_iload hx hb dX7_ask_40 (lv_at hl 3 rfl) ?_
      refine x_ci0 (rest := []) (x_runSN C hE hP hS ykX11_stepsBetween lkX7_64 (c_X11_stepsBetween (OB_bind hf)) (by decide) rfl hl.1 (Nat.le_of_ble_eq_true rfl) dX7_ask_42) hS (fun r22 H locs hf hP hS => ?_)
      refine lv_aload_n hx hb dX7_ask_45 rfl (lv_at hl 0 rfl) ?_
      refine gfX7_15 C hE hP dX7_ask_46 ?_
      refine lv_iload_n hx hb dX7_ask_49 rfl (lv_at hl 1 rfl) ?_
      refine x_ci0 (rest := [.int r22]) (x_runV C hE hP hS ykX5_numberOf lkX7_67 sh5 rfl (c_X5_numberOf (OB_bind hf)) (by decide) rfl hl.1 (Nat.le_of_ble_eq_true rfl) dX7_ask_50) hS (fun r23 H locs hf hP hS => ?_)
      refine xj (fun (M26 : Mem) => ∀ (H : Heap) (locs : List Loc) (ls : Array Slot), va_P G.1 vwCl (wl G M26 h) H → va_S (Aw G) s.heap H locs → lv_has ls 6 [(0, .ref (xa G 129)), (1, .int a1), (4, .int (((r1 / 16) * 16) + r2)), (5, .int x19)] → W p l e rm_X7_ask s m args below meth c H locs 0 0 Q (F0 m 67 ls [])) hf ?_ (fun hf => ?_)
      · rintro M26 hf H locs ls hP hS hl
        refine lv_iinc (v := (x19 + 1)) (lv' := [(5, .int (x19 + 1)), (0, .ref (xa G 129)), (1, .int a1), (4, .int (((r1 / 16) * 16) + r2))]) hx hb dX7_ask_67 hl (k := 3) rfl rfl (by decide) rfl (fun ls hl => ?_)
        refine lv_goto (tgt := 30) hx hb dX7_ask_70 (by decide) ?_
        exact (it_c hf) _ _ _ hP hS (lv_sub hl [1, 2, 3, 0] rfl)
      · skip
        refine lv_icmp_ne (tgt := 67) hx hb dX7_ask_53 (by decide) (fun hc => ?_) (fun hc => ?_)
        · have hf := (OB_f hf hc)
          exact (OB_some hf) _ _ _ hP hS (lv_sub hl [0, 1, 2, 3] rfl)
        · have hf := (OB_t hf hc)
          refine lv_aload_n hx hb dX7_ask_56 rfl (lv_at hl 0 rfl) ?_
          refine gfX7_9 C hE hP dX7_ask_57 ?_
          refine lv_iload hx hb dX7_ask_60 (lv_at hl 3 rfl) ?_
          refine lv_dup2_11 hx hb dX7_ask_62 rfl rfl ?_
          obtain ⟨g27, hf⟩ := OB_g hf
          refine x_iald C hE hP sh130 g27 dX7_ask_63 ?_
          refine lv_iconst (v := 1) hx hb dX7_ask_64 (by decide) ?_
          refine lv_iadd hx hb dX7_ask_65 ?_
          refine x_iast C hE hP hS sh130 g27 dX7_ask_66 (fun H locs hP hS => ?_)
          exact (OB_some hf) _ _ _ hP hS (lv_sub hl [0, 1, 2, 3] rfl)
def rm_X7_take : Room := { frames := 0, cells := 0, slots := 0, locals := 0 }
set_option maxRecDepth 100000 in
set_option maxHeartbeats 8000000 in
theorem c_X7_take {l : Launch} {G : GG} {a1 : Int32} {M : Mem} {h : Int64}  {P9 : Mem → Prop} (hf : OB (f_X7_take a1 M) P9) : Met1 l yX7_take cX7_take 2 none rm_X7_take G [.ref (xa G 129), .int a1] M h (QV1 G h P9) := by
  unfold f_X7_take at hf
  refine xm_v1 (by decide) (Nat.le_of_ble_eq_true rfl) ?_
  intro p e s m args below meth c ls Q C hE hret hP hS hl
  have C : CallFix p m c cX7_take 2 s args TB RX7 := C
  have hx := C.1
  have hb := C.2.1
  have hl : lv_has ls 2 [(0, .ref (xa G 129)), (1, .int a1)] := hl
  refine lv_aload_n hx hb dX7_take_0 rfl (lv_at hl 0 rfl) ?_
  refine gfX7_43 C hE hP dX7_take_1 ?_
  refine lv_iconst (v := -1) hx hb dX7_take_4 (by decide) ?_
  refine xj (fun (M5 : Mem) => ∀ (H : Heap) (locs : List Loc) (ls : Array Slot), va_P G.1 vwCl (wl G M5 h) H → va_S (Aw G) s.heap H locs → lv_has ls 2 [(0, .ref (xa G 129)), (1, .int a1)] → W p l e rm_X7_take s m args below meth c H locs 0 0 Q (F0 m 41 ls [])) hf ?_ (fun hf => ?_)
  · rintro M5 hf H locs ls hP hS hl
    refine lv_aload_n hx hb dX7_take_41 rfl (lv_at hl 0 rfl) ?_
    refine gfX7_9 C hE hP dX7_take_42 ?_
    refine lv_iload_n hx hb dX7_take_45 rfl (lv_at hl 1 rfl) ?_
    obtain ⟨g8, hf⟩ := OB_g hf
    refine x_iald C hE hP sh130 g8 dX7_take_46 ?_
    refine lv_aload_n hx hb dX7_take_47 rfl (lv_at hl 0 rfl) ?_
    refine gfX7_47 C hE hP dX7_take_48 ?_
    refine xj (fun (M9 : Mem) => ∀ (H : Heap) (locs : List Loc) (ls : Array Slot), va_P G.1 vwCl (wl G M9 h) H → va_S (Aw G) s.heap H locs → lv_has ls 2 [] → W p l e rm_X7_take s m args below meth c H locs 0 0 Q (F0 m 64 ls [])) hf ?_ (fun hf => ?_)
    · rintro M9 hf H locs ls hP hS hl
      exact hret _ _ _ _ _ (OB_some hf) hP hS dX7_take_64
    · skip
      refine lv_icmp_ne (tgt := 64) hx hb dX7_take_51 (by decide) (fun hc => ?_) (fun hc => ?_)
      · have hf := (OB_f hf hc)
        exact (OB_some hf) _ _ _ hP hS (lv_sub hl [] rfl)
      · have hf := (OB_t hf hc)
        refine lv_aload_n hx hb dX7_take_54 rfl (lv_at hl 0 rfl) ?_
        refine lv_dup hx hb dX7_take_55 rfl ?_
        refine gfX7_50 C hE hP dX7_take_56 ?_
        refine lv_iconst (v := 1) hx hb dX7_take_59 (by decide) ?_
        refine lv_iadd hx hb dX7_take_60 ?_
        refine pfX7_50 C hE hP hS dX7_take_61 (fun H locs hP hS => ?_)
        exact (OB_some hf) _ _ _ hP hS (lv_sub hl [] rfl)
  · skip
    refine lv_icmp_eq (tgt := 21) hx hb dX7_take_5 (by decide) (fun hc => ?_) (fun hc => ?_)
    · have hf := (OB_t hf hc)
      refine lv_aload_n hx hb dX7_take_21 rfl (lv_at hl 0 rfl) ?_
      refine lv_iload_n hx hb dX7_take_22 rfl (lv_at hl 1 rfl) ?_
      refine pfX7_43 C hE hP hS dX7_take_23 (fun H locs hP hS => ?_)
      refine lv_aload_n hx hb dX7_take_26 rfl (lv_at hl 0 rfl) ?_
      refine lv_aload_n hx hb dX7_take_27 rfl (lv_at hl 0 rfl) ?_
      refine gfX7_9 C hE hP dX7_take_28 ?_
      refine lv_iload_n hx hb dX7_take_31 rfl (lv_at hl 1 rfl) ?_
      obtain ⟨g6, hf⟩ := OB_g hf
      refine x_iald C hE hP sh130 g6 dX7_take_32 ?_
      refine pfX7_47 C hE hP hS dX7_take_33 (fun H locs hP hS => ?_)
      refine lv_aload_n hx hb dX7_take_36 rfl (lv_at hl 0 rfl) ?_
      refine lv_iconst (v := 0) hx hb dX7_take_37 (by decide) ?_
      refine pfX7_50 C hE hP hS dX7_take_38 (fun H locs hP hS => ?_)
      exact (OB_some hf) _ _ _ hP hS (lv_sub hl [0, 1] rfl)
    · have hf := (OB_f hf hc)
      refine lv_aload_n hx hb dX7_take_8 rfl (lv_at hl 0 rfl) ?_
      refine gfX7_9 C hE hP dX7_take_9 ?_
      refine lv_iload_n hx hb dX7_take_12 rfl (lv_at hl 1 rfl) ?_
      obtain ⟨g7, hf⟩ := OB_g hf
      refine x_iald C hE hP sh130 g7 dX7_take_13 ?_
      refine lv_aload_n hx hb dX7_take_14 rfl (lv_at hl 0 rfl) ?_
      refine gfX7_47 C hE hP dX7_take_15 ?_
      refine lv_icmp_le (tgt := 41) hx hb dX7_take_18 (by decide) (fun hc => ?_) (fun hc => ?_)
      · have hf := (OB_t hf hc)
        exact (OB_some hf) _ _ _ hP hS (lv_sub hl [0, 1] rfl)
      · have hf := (OB_f hf hc)
        refine lv_aload_n hx hb dX7_take_21 rfl (lv_at hl 0 rfl) ?_
        refine lv_iload_n hx hb dX7_take_22 rfl (lv_at hl 1 rfl) ?_
        refine pfX7_43 C hE hP hS dX7_take_23 (fun H locs hP hS => ?_)
        refine lv_aload_n hx hb dX7_take_26 rfl (lv_at hl 0 rfl) ?_
        refine lv_aload_n hx hb dX7_take_27 rfl (lv_at hl 0 rfl) ?_
        refine gfX7_9 C hE hP dX7_take_28 ?_
        refine lv_iload_n hx hb dX7_take_31 rfl (lv_at hl 1 rfl) ?_
        refine x_iald C hE hP sh130 g7 dX7_take_32 ?_
        refine pfX7_47 C hE hP hS dX7_take_33 (fun H locs hP hS => ?_)
        refine lv_aload_n hx hb dX7_take_36 rfl (lv_at hl 0 rfl) ?_
        refine lv_iconst (v := 0) hx hb dX7_take_37 (by decide) ?_
        refine pfX7_50 C hE hP hS dX7_take_38 (fun H locs hP hS => ?_)
        exact (OB_some hf) _ _ _ hP hS (lv_sub hl [0, 1] rfl)
def rm_X7_seek : Room := { frames := 4, cells := 0, slots := 0, locals := 89 }
set_option maxRecDepth 100000 in
set_option maxHeartbeats 8000000 in
theorem c_X7_seek {l : Launch} {G : GG} {a1 : Int32} {a2 : Int32} {a3 : Int32} {M : Mem} {h : Int64}  {P9 : Mem → Prop} (hf : OB (f_X7_seek a1 a2 a3 M) P9) : Met1 l yX7_seek cX7_seek 6 none rm_X7_seek G [.ref (xa G 129), .int a1, .int a2, .int a3] M h (QV1 G h P9) := by
  unfold f_X7_seek at hf
  refine xm_v1 (by decide) (Nat.le_of_ble_eq_true rfl) ?_
  intro p e s m args below meth c ls Q C hE hret hP hS hl
  have C : CallFix p m c cX7_seek 6 s args TB RX7 := C
  have hx := C.1
  have hb := C.2.1
  have hl : lv_has ls 6 [(0, .ref (xa G 129)), (1, .int a1), (2, .int a2), (3, .int a3)] := hl
  refine lv_aload_n hx hb dX7_seek_0 rfl (lv_at hl 0 rfl) ?_
  refine gfX7_9 C hE hP dX7_seek_1 ?_
  refine lv_iconst (v := 0) hx hb dX7_seek_4 (by decide) ?_
  refine x_fill C hE hP hS hl.1 lkX7_19 sh130 (by decide) (by decide) (Nat.le_of_ble_eq_true rfl) dX7_seek_5 (fun H locs hP hS => ?_)
  refine lv_iconst (v := 0) hx hb dX7_seek_8 (by decide) ?_
  refine lv_istore (lv' := [(4, .int 0), (0, .ref (xa G 129)), (1, .int a1), (2, .int a2), (3, .int a3)]) hx hb dX7_seek_9 hl (by decide) rfl (fun ls hl => ?_)
  refine lv_iconst (v := 0) hx hb dX7_seek_11 (by decide) ?_
  refine lv_istore (lv' := [(5, .int 0), (4, .int 0), (0, .ref (xa G 129)), (1, .int a1), (2, .int a2), (3, .int a3)]) hx hb dX7_seek_12 hl (by decide) rfl (fun ls hl => ?_)
  refine xj (fun (zz : (Bool × Mem)) => match zz with | (x90, M91) => ∀ (H : Heap) (locs : List Loc) (ls : Array Slot), va_P G.1 vwCl (wl G M91 h) H → va_S (Aw G) s.heap H locs → lv_has ls 6 [(0, .ref (xa G 129)), (4, .int (bI x90))] → W p l e rm_X7_seek s m args below meth c H locs 0 0 Q (F0 m 89 ls [])) hf ?_ (fun hf => ?_)
  · rintro ⟨x90, M91⟩ hf H locs ls hP hS hl
    refine lv_aload_n hx hb dX7_seek_89 rfl (lv_at hl 0 rfl) ?_
    refine lv_iconst (v := -1) hx hb dX7_seek_90 (by decide) ?_
    refine pfX7_43 C hE hP hS dX7_seek_91 (fun H locs hP hS => ?_)
    refine lv_aload_n hx hb dX7_seek_94 rfl (lv_at hl 0 rfl) ?_
    refine lv_iconst (v := 0) hx hb dX7_seek_95 (by decide) ?_
    refine pfX7_47 C hE hP hS dX7_seek_96 (fun H locs hP hS => ?_)
    refine lv_aload_n hx hb dX7_seek_99 rfl (lv_at hl 0 rfl) ?_
    refine lv_iconst (v := 0) hx hb dX7_seek_100 (by decide) ?_
    refine pfX7_50 C hE hP hS dX7_seek_101 (fun H locs hP hS => ?_)
    refine lv_iconst (v := 0) hx hb dX7_seek_104 (by decide) ?_
    refine lv_istore (lv' := [(5, .int 0), (0, .ref (xa G 129)), (4, .int (bI x90))]) hx hb dX7_seek_105 hl (by decide) rfl (fun ls hl => ?_)
    refine xj (fun (M140 : Mem) => ∀ (H : Heap) (locs : List Loc) (ls : Array Slot), va_P G.1 vwCl (wl G M140 h) H → va_S (Aw G) s.heap H locs → lv_has ls 6 [] → W p l e rm_X7_seek s m args below meth c H locs 0 0 Q (F0 m 132 ls [])) hf ?_ (fun hf => ?_)
    · rintro M140 hf H locs ls hP hS hl
      exact hret _ _ _ _ _ (OB_some hf) hP hS dX7_seek_132
    · refine (it_W (fun (zz : (Int32 × Mem)) => match zz with | (x138, M139) => ∀ (H : Heap) (locs : List Loc) (ls : Array Slot), va_P G.1 vwCl (wl G M139 h) H → va_S (Aw G) s.heap H locs → lv_has ls 6 [(0, .ref (xa G 129)), (4, .int (bI x90)), (5, .int x138)] → W p l e rm_X7_seek s m args below meth c H locs 0 0 Q (F0 m 107 ls [])) hf ?_) _ _ _ hP hS (lv_sub hl [1, 2, 0] rfl)
      rintro ⟨x138, M139⟩ hf H locs ls hP hS hl
      unfold f_X7_seek_b107 at hf
      refine lv_iload hx hb dX7_seek_107 (lv_at hl 1 rfl) ?_
      refine lv_if_eq (tgt := 132) hx hb dX7_seek_109 (by decide) (fun hc => ?_) (fun hc => ?_)
      · have hf := (OB_f hf (bI_f hc))
        exact (it_e hf) _ _ _ hP hS (lv_sub hl [] rfl)
      · have hf := (OB_t hf (bI_t hc))
        refine lv_iload hx hb dX7_seek_112 (lv_at hl 2 rfl) ?_
        refine lv_sipush (v := 128) hx hb dX7_seek_114 (by decide) ?_
        refine lv_icmp_ge (tgt := 132) hx hb dX7_seek_117 (by decide) (fun hc => ?_) (fun hc => ?_)
        · have hf := (OB_t hf hc)
          exact (it_e hf) _ _ _ hP hS (lv_sub hl [] rfl)
        · have hf := (OB_f hf hc)
          refine lv_aload_n hx hb dX7_seek_120 rfl (lv_at hl 0 rfl) ?_
          refine lv_iload hx hb dX7_seek_121 (lv_at hl 2 rfl) ?_
          refine x_cv1 (rest := []) (x_runV C hE hP hS ykX7_take lkX7_53 sh129 rfl (c_X7_take (OB_bind hf)) (by decide) rfl hl.1 (Nat.le_of_ble_eq_true rfl) dX7_seek_123) hS (fun M141 H locs hf hP hS => ?_)
          refine lv_iinc (v := (x138 + 1)) (lv' := [(5, .int (x138 + 1)), (0, .ref (xa G 129)), (4, .int (bI x90))]) hx hb dX7_seek_126 hl (k := 2) rfl rfl (by decide) rfl (fun ls hl => ?_)
          refine lv_goto (tgt := 107) hx hb dX7_seek_129 (by decide) ?_
          exact (it_c hf) _ _ _ hP hS (lv_sub hl [1, 2, 0] rfl)
  · refine (it_W (fun (zz : (Bool × Int32 × Mem)) => match zz with | (x87, x88, M89) => ∀ (H : Heap) (locs : List Loc) (ls : Array Slot), va_P G.1 vwCl (wl G M89 h) H → va_S (Aw G) s.heap H locs → lv_has ls 6 [(0, .ref (xa G 129)), (1, .int a1), (2, .int a2), (3, .int a3), (4, .int (bI x87)), (5, .int x88)] → W p l e rm_X7_seek s m args below meth c H locs 0 0 Q (F0 m 14 ls [])) hf ?_) _ _ _ hP hS (lv_sub hl [2, 3, 4, 5, 1, 0] rfl)
    rintro ⟨x87, x88, M89⟩ hf H locs ls hP hS hl
    unfold f_X7_seek_b14 at hf
    refine lv_iload hx hb dX7_seek_14 (lv_at hl 5 rfl) ?_
    refine lv_aload_n hx hb dX7_seek_16 rfl (lv_at hl 0 rfl) ?_
    refine gfX7_15 C hE hP dX7_seek_17 ?_
    refine x_ci0 (rest := [.int x88]) (x_runV C hE hP hS ykX5_size lkX7_25 sh5 rfl (c_X5_size (OB_bind hf)) (by decide) rfl hl.1 (Nat.le_of_ble_eq_true rfl) dX7_seek_20) hS (fun r92 H locs hf hP hS => ?_)
    refine lv_icmp_ge (tgt := 89) hx hb dX7_seek_23 (by decide) (fun hc => ?_) (fun hc => ?_)
    · have hf := (OB_t hf hc)
      exact (it_e hf) _ _ _ hP hS (lv_sub hl [0, 4] rfl)
    · have hf := (OB_f hf hc)
      refine lv_aload_n hx hb dX7_seek_26 rfl (lv_at hl 0 rfl) ?_
      refine gfX7_15 C hE hP dX7_seek_27 ?_
      refine lv_iload hx hb dX7_seek_30 (lv_at hl 5 rfl) ?_
      refine x_cz0 (rest := []) (x_runV C hE hP hS ykX5_isNeedle lkX7_31 sh5 rfl (c_X5_isNeedle (OB_bind hf)) (by decide) rfl hl.1 (Nat.le_of_ble_eq_true rfl) dX7_seek_32) hS (fun r93 H locs hf hP hS => ?_)
      refine xj (fun (zz : (Bool × Mem)) => match zz with | (x118, M119) => ∀ (H : Heap) (locs : List Loc) (ls : Array Slot), va_P G.1 vwCl (wl G M119 h) H → va_S (Aw G) s.heap H locs → lv_has ls 6 [(0, .ref (xa G 129)), (1, .int a1), (2, .int a2), (3, .int a3), (4, .int (bI x118)), (5, .int x88)] → W p l e rm_X7_seek s m args below meth c H locs 0 0 Q (F0 m 83 ls [])) hf ?_ (fun hf => ?_)
      · rintro ⟨x118, M119⟩ hf H locs ls hP hS hl
        refine lv_iinc (v := (x88 + 1)) (lv' := [(5, .int (x88 + 1)), (0, .ref (xa G 129)), (1, .int a1), (2, .int a2), (3, .int a3), (4, .int (bI x118))]) hx hb dX7_seek_83 hl (k := 5) rfl rfl (by decide) rfl (fun ls hl => ?_)
        refine lv_goto (tgt := 14) hx hb dX7_seek_86 (by decide) ?_
        exact (it_c hf) _ _ _ hP hS (lv_sub hl [1, 2, 3, 4, 5, 0] rfl)
      · skip
        refine lv_if_eq (tgt := 83) hx hb dX7_seek_35 (by decide) (fun hc => ?_) (fun hc => ?_)
        · have hf := (OB_f hf (bI_f hc))
          exact (OB_some hf) _ _ _ hP hS (lv_sub hl [0, 1, 2, 3, 4, 5] rfl)
        · have hf := (OB_t hf (bI_t hc))
          refine lv_iload_n hx hb dX7_seek_38 rfl (lv_at hl 1 rfl) ?_
          refine lv_iconst (v := -1) hx hb dX7_seek_39 (by decide) ?_
          have hj56 : ∀ (H : Heap) (locs : List Loc) (ls : Array Slot), OB (f_X7_seek_j56_0 a2 a3 x88 M89) (fun (zz : (Bool × Mem)) => match zz with | (x118, M119) => ∀ (H : Heap) (locs : List Loc) (ls : Array Slot), va_P G.1 vwCl (wl G M119 h) H → va_S (Aw G) s.heap H locs → lv_has ls 6 [(0, .ref (xa G 129)), (1, .int a1), (2, .int a2), (3, .int a3), (4, .int (bI x118)), (5, .int x88)] → W p l e rm_X7_seek s m args below meth c H locs 0 0 Q (F0 m 83 ls [])) → va_P G.1 vwCl (wl G M89 h) H → va_S (Aw G) s.heap H locs → lv_has ls 6 [(0, .ref (xa G 129)), (1, .int a1), (2, .int a2), (3, .int a3), (5, .int x88)] → W p l e rm_X7_seek s m args below meth c H locs 0 0 Q (F0 m 56 ls []) := by
            intro  H locs ls hf hP hS hl
            refine lv_iconst (v := 1) hx hb dX7_seek_56 (by decide) ?_
            refine lv_istore (lv' := [(4, .int 1), (0, .ref (xa G 129)), (1, .int a1), (2, .int a2), (3, .int a3), (5, .int x88)]) hx hb dX7_seek_57 hl (by decide) rfl (fun ls hl => ?_)
            refine lv_aload_n hx hb dX7_seek_59 rfl (lv_at hl 1 rfl) ?_
            refine lv_iload hx hb dX7_seek_60 (lv_at hl 5 rfl) ?_
            refine lv_aload_n hx hb dX7_seek_62 rfl (lv_at hl 1 rfl) ?_
            refine gfX7_15 C hE hP dX7_seek_63 ?_
            refine lv_iload hx hb dX7_seek_66 (lv_at hl 5 rfl) ?_
            refine x_ci0 (rest := [.int x88, .ref (xa G 129)]) (x_runV C hE hP hS ykX5_landOf lkX7_35 sh5 rfl (c_X5_landOf (OB_bind hf)) (by decide) rfl hl.1 (Nat.le_of_ble_eq_true rfl) dX7_seek_68) hS (fun r128 H locs hf hP hS => ?_)
            refine lv_iload_n hx hb dX7_seek_71 rfl (lv_at hl 3 rfl) ?_
            refine xj (fun (x129 : Int32) => ∀ (H : Heap) (locs : List Loc) (ls : Array Slot), va_P G.1 vwCl (wl G M89 h) H → va_S (Aw G) s.heap H locs → lv_has ls 6 [(0, .ref (xa G 129)), (1, .int a1), (2, .int a2), (3, .int a3), (4, .int 1), (5, .int x88)] → W p l e rm_X7_seek s m args below meth c H locs 0 0 Q (F0 m 80 ls [.int x129, .int x88, .ref (xa G 129)])) hf ?_ (fun hf => ?_)
            · rintro x129 hf H locs ls hP hS hl
              refine x_cv1 (rest := []) (x_runV C hE hP hS ykX7_ask lkX7_39 sh129 rfl (c_X7_ask (OB_bind hf)) (by decide) rfl hl.1 (Nat.le_of_ble_eq_true rfl) dX7_seek_80) hS (fun M130 H locs hf hP hS => ?_)
              exact (OB_some hf) _ _ _ hP hS (lv_sub hl [0, 1, 2, 3, 4, 5] rfl)
            · skip
              refine lv_icmp_ne (tgt := 79) hx hb dX7_seek_72 (by decide) (fun hc => ?_) (fun hc => ?_)
              · have hf := (OB_f hf hc)
                refine lv_iconst (v := 0) hx hb dX7_seek_79 (by decide) ?_
                exact (OB_some hf) _ _ _ hP hS (lv_sub hl [1, 2, 3, 4, 0, 5] rfl)
              · have hf := (OB_t hf hc)
                refine lv_iload_n hx hb dX7_seek_75 rfl (lv_at hl 4 rfl) ?_
                refine lv_goto (tgt := 80) hx hb dX7_seek_76 (by decide) ?_
                exact (OB_some hf) _ _ _ hP hS (lv_sub hl [1, 2, 3, 4, 0, 5] rfl)
          refine lv_icmp_eq (tgt := 56) hx hb dX7_seek_40 (by decide) (fun hc => ?_) (fun hc => ?_)
          · have hf := (OB_t hf hc)
            exact hj56  _ _ _ hf hP hS (lv_sub hl [0, 1, 2, 3, 5] rfl)
          · have hf := (OB_f hf hc)
            refine lv_aload_n hx hb dX7_seek_43 rfl (lv_at hl 0 rfl) ?_
            refine gfX7_15 C hE hP dX7_seek_44 ?_
            refine lv_iload hx hb dX7_seek_47 (lv_at hl 5 rfl) ?_
            refine x_ci0 (rest := []) (x_runV C hE hP hS ykX5_landOf lkX7_35 sh5 rfl (c_X5_landOf (OB_bind hf)) (by decide) rfl hl.1 (Nat.le_of_ble_eq_true rfl) dX7_seek_49) hS (fun r131 H locs hf hP hS => ?_)
            refine lv_iload_n hx hb dX7_seek_52 rfl (lv_at hl 1 rfl) ?_
            refine lv_icmp_ne (tgt := 83) hx hb dX7_seek_53 (by decide) (fun hc => ?_) (fun hc => ?_)
            · have hf := (OB_f hf hc)
              exact (OB_some hf) _ _ _ hP hS (lv_sub hl [0, 1, 2, 3, 4, 5] rfl)
            · have hf := (OB_t hf hc)
              exact hj56  _ _ _ hf hP hS (lv_sub hl [0, 1, 2, 3, 5] rfl)
def rm_X8_ask : Room := { frames := 3, cells := 0, slots := 0, locals := 76 }
set_option maxRecDepth 100000 in
set_option maxHeartbeats 8000000 in
theorem c_X8_ask {l : Launch} {G : GG} {P1 : Nat} {a2 : Int32} {M : Mem} {h : Int64} (hP1 : isHolder P1) {P9 : Mem → Prop} (hf : OB (f_X8_ask P1 a2 M) P9) : Met1 l yX8_ask cX8_ask 7 none rm_X8_ask G [.ref (xa G 117), .ref (xa G P1), .int a2] M h (QV1 G h P9) := by
  unfold f_X8_ask at hf
  refine xm_v1 (by decide) (Nat.le_of_ble_eq_true rfl) ?_
  intro p e s m args below meth c ls Q C hE hret hP hS hl
  have C : CallFix p m c cX8_ask 7 s args TB RX8 := C
  have hx := C.1
  have hb := C.2.1
  have hl : lv_has ls 7 [(0, .ref (xa G 117)), (1, .ref (xa G P1)), (2, .int a2)] := hl
  refine lv_aload_n hx hb dX8_ask_0 rfl (lv_at hl 0 rfl) ?_
  refine gfX8_22 C hE hP dX8_ask_1 ?_
  refine lv_iload_n hx hb dX8_ask_4 rfl (lv_at hl 2 rfl) ?_
  refine x_ci0 (rest := []) (x_runV C hE hP hS ykX0_ageOf lkX8_55 sh114 rfl (c_X0_ageOf (OB_bind hf)) (by decide) rfl hl.1 (Nat.le_of_ble_eq_true rfl) dX8_ask_5) hS (fun r1 H locs hf hP hS => ?_)
  refine lv_istore_n (lv' := [(3, .int r1), (0, .ref (xa G 117)), (1, .ref (xa G P1)), (2, .int a2)]) hx hb dX8_ask_8 rfl hl (by decide) rfl (fun ls hl => ?_)
  refine lv_aload_n hx hb dX8_ask_9 rfl (lv_at hl 1 rfl) ?_
  refine gfX8_22 C hE hP dX8_ask_10 ?_
  refine lv_iload_n hx hb dX8_ask_13 rfl (lv_at hl 3 rfl) ?_
  refine x_ci0 (rest := []) (x_runV C hE hP hS ykX0_howManyLands lkX8_58 sh114 rfl (c_X0_howManyLands (OB_bind hf)) (by decide) rfl hl.1 (Nat.le_of_ble_eq_true rfl) dX8_ask_14) hS (fun r2 H locs hf hP hS => ?_)
  refine lv_istore (lv' := [(4, .int r2), (3, .int r1), (0, .ref (xa G 117)), (1, .ref (xa G P1)), (2, .int a2)]) hx hb dX8_ask_17 hl (by decide) rfl (fun ls hl => ?_)
  refine lv_iconst (v := 0) hx hb dX8_ask_19 (by decide) ?_
  refine lv_istore (lv' := [(5, .int 0), (4, .int r2), (3, .int r1), (0, .ref (xa G 117)), (1, .ref (xa G P1)), (2, .int a2)]) hx hb dX8_ask_20 hl (by decide) rfl (fun ls hl => ?_)
  refine xj (fun (M61 : Mem) => ∀ (H : Heap) (locs : List Loc) (ls : Array Slot), va_P G.1 vwCl (wl G M61 h) H → va_S (Aw G) s.heap H locs → lv_has ls 7 [] → W p l e rm_X8_ask s m args below meth c H locs 0 0 Q (F0 m 106 ls [])) hf ?_ (fun hf => ?_)
  · rintro M61 hf H locs ls hP hS hl
    exact hret _ _ _ _ _ (OB_some hf) hP hS dX8_ask_106
  · refine (it_W (fun (zz : (Int32 × Mem)) => match zz with | (x59, M60) => ∀ (H : Heap) (locs : List Loc) (ls : Array Slot), va_P G.1 vwCl (wl G M60 h) H → va_S (Aw G) s.heap H locs → lv_has ls 7 [(0, .ref (xa G 117)), (1, .ref (xa G P1)), (3, .int r1), (4, .int r2), (5, .int x59)] → W p l e rm_X8_ask s m args below meth c H locs 0 0 Q (F0 m 22 ls [])) hf ?_) _ _ _ hP hS (lv_sub hl [3, 4, 2, 1, 0] rfl)
    rintro ⟨x59, M60⟩ hf H locs ls hP hS hl
    unfold f_X8_ask_b22 at hf
    refine lv_iload hx hb dX8_ask_22 (lv_at hl 4 rfl) ?_
    refine lv_bipush (v := 6) hx hb dX8_ask_24 (by decide) ?_
    refine lv_icmp_ge (tgt := 106) hx hb dX8_ask_26 (by decide) (fun hc => ?_) (fun hc => ?_)
    · have hf := (OB_t hf hc)
      exact (it_e hf) _ _ _ hP hS (lv_sub hl [] rfl)
    · have hf := (OB_f hf hc)
      refine lv_iload hx hb dX8_ask_29 (lv_at hl 4 rfl) ?_
      refine lv_iconst (v := 1) hx hb dX8_ask_31 (by decide) ?_
      refine lv_iadd hx hb dX8_ask_32 ?_
      refine lv_istore (lv' := [(6, .int (x59 + 1)), (0, .ref (xa G 117)), (1, .ref (xa G P1)), (3, .int r1), (4, .int r2), (5, .int x59)]) hx hb dX8_ask_33 hl (by decide) rfl (fun ls hl => ?_)
      refine xj (fun (zz : (Int32 × Mem)) => match zz with | (x81, M82) => ∀ (H : Heap) (locs : List Loc) (ls : Array Slot), va_P G.1 vwCl (wl G M82 h) H → va_S (Aw G) s.heap H locs → lv_has ls 7 [(0, .ref (xa G 117)), (1, .ref (xa G P1)), (3, .int r1), (4, .int r2), (5, .int x81)] → W p l e rm_X8_ask s m args below meth c H locs 0 0 Q (F0 m 100 ls [])) hf ?_ (fun hf => ?_)
      · rintro ⟨x81, M82⟩ hf H locs ls hP hS hl
        refine lv_iinc (v := (x81 + 1)) (lv' := [(5, .int (x81 + 1)), (0, .ref (xa G 117)), (1, .ref (xa G P1)), (3, .int r1), (4, .int r2)]) hx hb dX8_ask_100 hl (k := 4) rfl rfl (by decide) rfl (fun ls hl => ?_)
        refine lv_goto (tgt := 22) hx hb dX8_ask_103 (by decide) ?_
        exact (it_c hf) _ _ _ hP hS (lv_sub hl [1, 2, 3, 4, 0] rfl)
      · refine (it_W (fun (zz : (Int32 × Int32 × Mem)) => match zz with | (x78, x79, M80) => ∀ (H : Heap) (locs : List Loc) (ls : Array Slot), va_P G.1 vwCl (wl G M80 h) H → va_S (Aw G) s.heap H locs → lv_has ls 7 [(0, .ref (xa G 117)), (1, .ref (xa G P1)), (3, .int r1), (4, .int r2), (5, .int x78), (6, .int x79)] → W p l e rm_X8_ask s m args below meth c H locs 0 0 Q (F0 m 35 ls [])) hf ?_) _ _ _ hP hS (lv_sub hl [1, 2, 3, 4, 5, 0] rfl)
        rintro ⟨x78, x79, M80⟩ hf H locs ls hP hS hl
        unfold f_X8_ask_b35 at hf
        refine lv_iload hx hb dX8_ask_35 (lv_at hl 5 rfl) ?_
        refine lv_bipush (v := 6) hx hb dX8_ask_37 (by decide) ?_
        refine lv_icmp_ge (tgt := 100) hx hb dX8_ask_39 (by decide) (fun hc => ?_) (fun hc => ?_)
        · have hf := (OB_t hf hc)
          exact (it_e hf) _ _ _ hP hS (lv_sub hl [0, 1, 2, 3, 4] rfl)
        · have hf := (OB_f hf hc)
          refine lv_aload_n hx hb dX8_ask_42 rfl (lv_at hl 1 rfl) ?_
          refine lv_aload_n hx hb dX8_ask_43 rfl (lv_at hl 0 rfl) ?_
          refine gfX8_18 C hE hP dX8_ask_44 ?_
          refine lv_iload hx hb dX8_ask_47 (lv_at hl 4 rfl) ?_
          refine lv_iload hx hb dX8_ask_49 (lv_at hl 5 rfl) ?_
          refine x_ci1 (rest := [.ref (xa G P1)]) (x_runV C hE hP hS ykX2_apart lkX8_61 sh1 rfl (c_X2_apart (OB_bind hf)) (by decide) rfl hl.1 (Nat.le_of_ble_eq_true rfl) dX8_ask_51) hS (fun r83 M84 H locs hf hP hS => ?_)
          refine lv_iload_n hx hb dX8_ask_54 rfl (lv_at hl 2 rfl) ?_
          refine lv_iload hx hb dX8_ask_55 (lv_at hl 3 rfl) ?_
          refine x_cv1 (rest := []) (x_runV C hE hP hS ykX3_choose lkX8_67 (sh_H hP1) rfl (c_X3_choose hP1 (OB_bind hf)) (by decide) rfl hl.1 (Nat.le_of_ble_eq_true rfl) dX8_ask_57) hS (fun M85 H locs hf hP hS => ?_)
          refine lv_aload_n hx hb dX8_ask_60 rfl (lv_at hl 0 rfl) ?_
          refine gfX8_9 C hE hP dX8_ask_61 ?_
          refine lv_iload hx hb dX8_ask_64 (lv_at hl 4 rfl) ?_
          refine lv_bipush (v := 6) hx hb dX8_ask_66 (by decide) ?_
          refine lv_imul hx hb dX8_ask_68 ?_
          refine lv_iload hx hb dX8_ask_69 (lv_at hl 5 rfl) ?_
          refine lv_iadd hx hb dX8_ask_71 ?_
          refine lv_aload_n hx hb dX8_ask_72 rfl (lv_at hl 1 rfl) ?_
          refine gfX8_73 hP1 C hE hP dX8_ask_73 ?_
          obtain ⟨g86, hf⟩ := OB_g hf
          refine x_iast C hE hP hS sh118 g86 dX8_ask_76 (fun H locs hP hS => ?_)
          refine lv_aload_n hx hb dX8_ask_77 rfl (lv_at hl 0 rfl) ?_
          refine gfX8_9 C hE hP dX8_ask_78 ?_
          refine lv_iload hx hb dX8_ask_81 (lv_at hl 5 rfl) ?_
          refine lv_bipush (v := 6) hx hb dX8_ask_83 (by decide) ?_
          refine lv_imul hx hb dX8_ask_85 ?_
          refine lv_iload hx hb dX8_ask_86 (lv_at hl 4 rfl) ?_
          refine lv_iadd hx hb dX8_ask_88 ?_
          refine lv_aload_n hx hb dX8_ask_89 rfl (lv_at hl 1 rfl) ?_
          refine gfX8_73 hP1 C hE hP dX8_ask_90 ?_
          obtain ⟨g87, hf⟩ := OB_g hf
          refine x_iast C hE hP hS sh118 g87 dX8_ask_93 (fun H locs hP hS => ?_)
          refine lv_iinc (v := (x79 + 1)) (lv' := [(6, .int (x79 + 1)), (0, .ref (xa G 117)), (1, .ref (xa G P1)), (3, .int r1), (4, .int r2), (5, .int x78)]) hx hb dX8_ask_94 hl (k := 5) rfl rfl (by decide) rfl (fun ls hl => ?_)
          refine lv_goto (tgt := 35) hx hb dX8_ask_97 (by decide) ?_
          exact (it_c hf) _ _ _ hP hS (lv_sub hl [1, 2, 3, 4, 5, 0] rfl)
def rm_X8_nearest : Room := { frames := 0, cells := 0, slots := 0, locals := 0 }
set_option maxRecDepth 100000 in
set_option maxHeartbeats 8000000 in
theorem c_X8_nearest {l : Launch} {G : GG} {a1 : Int32} {M : Mem} {h : Int64}  {P9 : Int32 → Prop} (hf : OB (f_X8_nearest a1 M) P9) : Met1 l yX8_nearest cX8_nearest 5 (some .int) rm_X8_nearest G [.ref (xa G 117), .int a1] M h (QI0 G M h P9) := by
  unfold f_X8_nearest at hf
  refine xm_i0 (by decide) (Nat.le_of_ble_eq_true rfl) ?_
  intro p e s m args below meth c ls Q C hE hret hP hS hl
  have C : CallFix p m c cX8_nearest 5 s args TB RX8 := C
  have hx := C.1
  have hb := C.2.1
  have hl : lv_has ls 5 [(0, .ref (xa G 117)), (1, .int a1)] := hl
  refine lv_iconst (v := -1) hx hb dX8_nearest_0 (by decide) ?_
  refine lv_istore_n (lv' := [(2, .int (-1)), (0, .ref (xa G 117)), (1, .int a1)]) hx hb dX8_nearest_1 rfl hl (by decide) rfl (fun ls hl => ?_)
  refine lv_iconst (v := 0) hx hb dX8_nearest_2 (by decide) ?_
  refine lv_istore_n (lv' := [(3, .int 0), (2, .int (-1)), (0, .ref (xa G 117)), (1, .int a1)]) hx hb dX8_nearest_3 rfl hl (by decide) rfl (fun ls hl => ?_)
  refine xj (fun (x29 : Int32) => ∀ (H : Heap) (locs : List Loc) (ls : Array Slot), va_P G.1 vwCl (wl G M h) H → va_S (Aw G) s.heap H locs → lv_has ls 5 [(2, .int x29)] → W p l e rm_X8_nearest s m args below meth c H locs 0 0 Q (F0 m 69 ls [])) hf ?_ (fun hf => ?_)
  · rintro x29 hf H locs ls hP hS hl
    refine lv_iload_n hx hb dX8_nearest_69 rfl (lv_at hl 0 rfl) ?_
    exact hret _ _ _ _ _ (OB_some hf) hP hS dX8_nearest_70
  · refine (it_W (fun (zz : (Int32 × Int32)) => match zz with | (x27, x28) => ∀ (H : Heap) (locs : List Loc) (ls : Array Slot), va_P G.1 vwCl (wl G M h) H → va_S (Aw G) s.heap H locs → lv_has ls 5 [(0, .ref (xa G 117)), (1, .int a1), (2, .int x27), (3, .int x28)] → W p l e rm_X8_nearest s m args below meth c H locs 0 0 Q (F0 m 4 ls [])) hf ?_) _ _ _ hP hS (lv_sub hl [2, 3, 1, 0] rfl)
    rintro ⟨x27, x28⟩ hf H locs ls hP hS hl
    unfold f_X8_nearest_b4 at hf
    refine lv_iload_n hx hb dX8_nearest_4 rfl (lv_at hl 3 rfl) ?_
    refine lv_bipush (v := 6) hx hb dX8_nearest_5 (by decide) ?_
    refine lv_icmp_ge (tgt := 69) hx hb dX8_nearest_7 (by decide) (fun hc => ?_) (fun hc => ?_)
    · have hf := (OB_t hf hc)
      exact (it_e hf) _ _ _ hP hS (lv_sub hl [2] rfl)
    · have hf := (OB_f hf hc)
      refine lv_iload_n hx hb dX8_nearest_10 rfl (lv_at hl 1 rfl) ?_
      refine lv_iload_n hx hb dX8_nearest_11 rfl (lv_at hl 3 rfl) ?_
      refine x_ishr C dX8_nearest_12 ?_
      refine lv_iconst (v := 1) hx hb dX8_nearest_13 (by decide) ?_
      refine lv_iand hx hb dX8_nearest_14 ?_
      refine lv_iconst (v := 1) hx hb dX8_nearest_15 (by decide) ?_
      refine xj (fun (x32 : Bool) => ∀ (H : Heap) (locs : List Loc) (ls : Array Slot), va_P G.1 vwCl (wl G M h) H → va_S (Aw G) s.heap H locs → lv_has ls 5 [(0, .ref (xa G 117)), (1, .int a1), (2, .int x27), (3, .int x28)] → W p l e rm_X8_nearest s m args below meth c H locs 0 0 Q (F0 m 34 ls [.int (bI x32)])) hf ?_ (fun hf => ?_)
      · rintro x32 hf H locs ls hP hS hl
        refine lv_istore (lv' := [(4, .int (bI x32)), (0, .ref (xa G 117)), (1, .int a1), (2, .int x27), (3, .int x28)]) hx hb dX8_nearest_34 hl (by decide) rfl (fun ls hl => ?_)
        refine lv_iload hx hb dX8_nearest_36 (lv_at hl 0 rfl) ?_
        refine xj (fun (x38 : Int32) => ∀ (H : Heap) (locs : List Loc) (ls : Array Slot), va_P G.1 vwCl (wl G M h) H → va_S (Aw G) s.heap H locs → lv_has ls 5 [(0, .ref (xa G 117)), (1, .int a1), (2, .int x38), (3, .int x28)] → W p l e rm_X8_nearest s m args below meth c H locs 0 0 Q (F0 m 63 ls [])) hf ?_ (fun hf => ?_)
        · rintro x38 hf H locs ls hP hS hl
          refine lv_iinc (v := (x28 + 1)) (lv' := [(3, .int (x28 + 1)), (0, .ref (xa G 117)), (1, .int a1), (2, .int x38)]) hx hb dX8_nearest_63 hl (k := 3) rfl rfl (by decide) rfl (fun ls hl => ?_)
          refine lv_goto (tgt := 4) hx hb dX8_nearest_66 (by decide) ?_
          exact (it_c hf) _ _ _ hP hS (lv_sub hl [1, 2, 3, 0] rfl)
        · skip
          refine lv_if_eq (tgt := 63) hx hb dX8_nearest_38 (by decide) (fun hc => ?_) (fun hc => ?_)
          · have hf := (OB_f hf (bI_f hc))
            exact (OB_some hf) _ _ _ hP hS (lv_sub hl [1, 2, 3, 4] rfl)
          · have hf := (OB_t hf (bI_t hc))
            refine lv_iload_n hx hb dX8_nearest_41 rfl (lv_at hl 3 rfl) ?_
            refine lv_iconst (v := -1) hx hb dX8_nearest_42 (by decide) ?_
            refine lv_icmp_eq (tgt := 61) hx hb dX8_nearest_43 (by decide) (fun hc => ?_) (fun hc => ?_)
            · have hf := (OB_t hf hc)
              refine lv_iload_n hx hb dX8_nearest_61 rfl (lv_at hl 4 rfl) ?_
              refine lv_istore_n (lv' := [(2, .int x28), (4, .int (bI x32)), (0, .ref (xa G 117)), (1, .int a1), (3, .int x28)]) hx hb dX8_nearest_62 rfl hl (by decide) rfl (fun ls hl => ?_)
              exact (OB_some hf) _ _ _ hP hS (lv_sub hl [2, 3, 0, 4] rfl)
            · have hf := (OB_f hf hc)
              refine lv_aload_n hx hb dX8_nearest_46 rfl (lv_at hl 1 rfl) ?_
              refine gfX8_15 C hE hP dX8_nearest_47 ?_
              refine lv_iload_n hx hb dX8_nearest_50 rfl (lv_at hl 4 rfl) ?_
              obtain ⟨g39, hf⟩ := OB_g hf
              refine x_iald C hE hP sh119 g39 dX8_nearest_51 ?_
              refine lv_aload_n hx hb dX8_nearest_52 rfl (lv_at hl 1 rfl) ?_
              refine gfX8_15 C hE hP dX8_nearest_53 ?_
              refine lv_iload_n hx hb dX8_nearest_56 rfl (lv_at hl 3 rfl) ?_
              obtain ⟨g40, hf⟩ := OB_g hf
              refine x_iald C hE hP sh119 g40 dX8_nearest_57 ?_
              refine lv_icmp_ge (tgt := 63) hx hb dX8_nearest_58 (by decide) (fun hc => ?_) (fun hc => ?_)
              · have hf := (OB_t hf hc)
                exact (OB_some hf) _ _ _ hP hS (lv_sub hl [1, 2, 3, 4] rfl)
              · have hf := (OB_f hf hc)
                refine lv_iload_n hx hb dX8_nearest_61 rfl (lv_at hl 4 rfl) ?_
                refine lv_istore_n (lv' := [(2, .int x28), (4, .int (bI x32)), (0, .ref (xa G 117)), (1, .int a1), (3, .int x28)]) hx hb dX8_nearest_62 rfl hl (by decide) rfl (fun ls hl => ?_)
                exact (OB_some hf) _ _ _ hP hS (lv_sub hl [2, 3, 0, 4] rfl)
      · skip
        refine lv_icmp_ne (tgt := 33) hx hb dX8_nearest_16 (by decide) (fun hc => ?_) (fun hc => ?_)
        · have hf := (OB_f hf hc)
          refine lv_iconst (v := 0) hx hb dX8_nearest_33 (by decide) ?_
          refine W.eq (g2 := F0 m 34 ls [.int (bI false)]) rfl ?_
          exact (OB_some hf) _ _ _ hP hS (lv_sub hl [0, 1, 2, 3] rfl)
        · have hf := (OB_t hf hc)
          refine lv_aload_n hx hb dX8_nearest_19 rfl (lv_at hl 0 rfl) ?_
          refine gfX8_15 C hE hP dX8_nearest_20 ?_
          refine lv_iload_n hx hb dX8_nearest_23 rfl (lv_at hl 3 rfl) ?_
          obtain ⟨g33, hf⟩ := OB_g hf
          refine x_iald C hE hP sh119 g33 dX8_nearest_24 ?_
          refine lv_iconst (v := -1) hx hb dX8_nearest_25 (by decide) ?_
          refine lv_icmp_eq (tgt := 33) hx hb dX8_nearest_26 (by decide) (fun hc => ?_) (fun hc => ?_)
          · have hf := (OB_t hf hc)
            refine lv_iconst (v := 0) hx hb dX8_nearest_33 (by decide) ?_
            refine W.eq (g2 := F0 m 34 ls [.int (bI false)]) rfl ?_
            exact (OB_some hf) _ _ _ hP hS (lv_sub hl [0, 1, 2, 3] rfl)
          · have hf := (OB_f hf hc)
            refine lv_iconst (v := 1) hx hb dX8_nearest_29 (by decide) ?_
            refine lv_goto (tgt := 34) hx hb dX8_nearest_30 (by decide) ?_
            refine W.eq (g2 := F0 m 34 ls [.int (bI true)]) rfl ?_
            exact (OB_some hf) _ _ _ hP hS (lv_sub hl [0, 1, 2, 3] rfl)
def rm_X8_reachFrom : Room := { frames := 0, cells := 0, slots := 0, locals := 0 }
set_option maxRecDepth 100000 in
set_option maxHeartbeats 8000000 in
theorem c_X8_reachFrom {l : Launch} {G : GG} {a1 : Int32} {M : Mem} {h : Int64}  {P9 : Mem → Prop} (hf : OB (f_X8_reachFrom a1 M) P9) : Met1 l yX8_reachFrom cX8_reachFrom 4 none rm_X8_reachFrom G [.ref (xa G 117), .int a1] M h (QV1 G h P9) := by
  unfold f_X8_reachFrom at hf
  refine xm_v1 (by decide) (Nat.le_of_ble_eq_true rfl) ?_
  intro p e s m args below meth c ls Q C hE hret hP hS hl
  have C : CallFix p m c cX8_reachFrom 4 s args TB RX8 := C
  have hx := C.1
  have hb := C.2.1
  have hl : lv_has ls 4 [(0, .ref (xa G 117)), (1, .int a1)] := hl
  refine lv_iconst (v := 0) hx hb dX8_reachFrom_0 (by decide) ?_
  refine lv_istore_n (lv' := [(2, .int 0), (0, .ref (xa G 117)), (1, .int a1)]) hx hb dX8_reachFrom_1 rfl hl (by decide) rfl (fun ls hl => ?_)
  refine xj (fun (M17 : Mem) => ∀ (H : Heap) (locs : List Loc) (ls : Array Slot), va_P G.1 vwCl (wl G M17 h) H → va_S (Aw G) s.heap H locs → lv_has ls 4 [] → W p l e rm_X8_reachFrom s m args below meth c H locs 0 0 Q (F0 m 63 ls [])) hf ?_ (fun hf => ?_)
  · rintro M17 hf H locs ls hP hS hl
    exact hret _ _ _ _ _ (OB_some hf) hP hS dX8_reachFrom_63
  · refine (it_W (fun (zz : (Int32 × Mem)) => match zz with | (x15, M16) => ∀ (H : Heap) (locs : List Loc) (ls : Array Slot), va_P G.1 vwCl (wl G M16 h) H → va_S (Aw G) s.heap H locs → lv_has ls 4 [(0, .ref (xa G 117)), (1, .int a1), (2, .int x15)] → W p l e rm_X8_reachFrom s m args below meth c H locs 0 0 Q (F0 m 2 ls [])) hf ?_) _ _ _ hP hS (lv_sub hl [1, 2, 0] rfl)
    rintro ⟨x15, M16⟩ hf H locs ls hP hS hl
    unfold f_X8_reachFrom_b2 at hf
    refine lv_iload_n hx hb dX8_reachFrom_2 rfl (lv_at hl 2 rfl) ?_
    refine lv_bipush (v := 6) hx hb dX8_reachFrom_3 (by decide) ?_
    refine lv_icmp_ge (tgt := 63) hx hb dX8_reachFrom_5 (by decide) (fun hc => ?_) (fun hc => ?_)
    · have hf := (OB_t hf hc)
      exact (it_e hf) _ _ _ hP hS (lv_sub hl [] rfl)
    · have hf := (OB_f hf hc)
      refine lv_aload_n hx hb dX8_reachFrom_8 rfl (lv_at hl 0 rfl) ?_
      refine gfX8_9 C hE hP dX8_reachFrom_9 ?_
      refine lv_iload_n hx hb dX8_reachFrom_12 rfl (lv_at hl 1 rfl) ?_
      refine lv_bipush (v := 6) hx hb dX8_reachFrom_13 (by decide) ?_
      refine lv_imul hx hb dX8_reachFrom_15 ?_
      refine lv_iload_n hx hb dX8_reachFrom_16 rfl (lv_at hl 2 rfl) ?_
      refine lv_iadd hx hb dX8_reachFrom_17 ?_
      obtain ⟨g18, hf⟩ := OB_g hf
      refine x_iald C hE hP sh118 g18 dX8_reachFrom_18 ?_
      refine lv_istore_n (lv' := [(3, .int (M16 118 (Int32.toNatClampNeg ((a1 * 6) + x15)))), (0, .ref (xa G 117)), (1, .int a1), (2, .int x15)]) hx hb dX8_reachFrom_19 rfl hl (by decide) rfl (fun ls hl => ?_)
      refine lv_iload_n hx hb dX8_reachFrom_20 rfl (lv_at hl 3 rfl) ?_
      refine lv_iload_n hx hb dX8_reachFrom_21 rfl (lv_at hl 2 rfl) ?_
      refine xj (fun (M21 : Mem) => ∀ (H : Heap) (locs : List Loc) (ls : Array Slot), va_P G.1 vwCl (wl G M21 h) H → va_S (Aw G) s.heap H locs → lv_has ls 4 [(0, .ref (xa G 117)), (1, .int a1), (2, .int x15)] → W p l e rm_X8_reachFrom s m args below meth c H locs 0 0 Q (F0 m 57 ls [])) hf ?_ (fun hf => ?_)
      · rintro M21 hf H locs ls hP hS hl
        refine lv_iinc (v := (x15 + 1)) (lv' := [(2, .int (x15 + 1)), (0, .ref (xa G 117)), (1, .int a1)]) hx hb dX8_reachFrom_57 hl (k := 2) rfl rfl (by decide) rfl (fun ls hl => ?_)
        refine lv_goto (tgt := 2) hx hb dX8_reachFrom_60 (by decide) ?_
        exact (it_c hf) _ _ _ hP hS (lv_sub hl [1, 2, 0] rfl)
      · skip
        refine lv_icmp_eq (tgt := 57) hx hb dX8_reachFrom_22 (by decide) (fun hc => ?_) (fun hc => ?_)
        · have hf := (OB_t hf hc)
          exact (OB_some hf) _ _ _ hP hS (lv_sub hl [1, 2, 3] rfl)
        · have hf := (OB_f hf hc)
          refine lv_iload_n hx hb dX8_reachFrom_25 rfl (lv_at hl 0 rfl) ?_
          refine lv_iconst (v := -1) hx hb dX8_reachFrom_26 (by decide) ?_
          refine lv_icmp_eq (tgt := 57) hx hb dX8_reachFrom_27 (by decide) (fun hc => ?_) (fun hc => ?_)
          · have hf := (OB_t hf hc)
            exact (OB_some hf) _ _ _ hP hS (lv_sub hl [1, 2, 3] rfl)
          · have hf := (OB_f hf hc)
            refine lv_aload_n hx hb dX8_reachFrom_30 rfl (lv_at hl 1 rfl) ?_
            refine gfX8_15 C hE hP dX8_reachFrom_31 ?_
            refine lv_iload_n hx hb dX8_reachFrom_34 rfl (lv_at hl 3 rfl) ?_
            obtain ⟨g22, hf⟩ := OB_g hf
            refine x_iald C hE hP sh119 g22 dX8_reachFrom_35 ?_
            refine lv_iconst (v := -1) hx hb dX8_reachFrom_36 (by decide) ?_
            refine lv_icmp_eq (tgt := 50) hx hb dX8_reachFrom_37 (by decide) (fun hc => ?_) (fun hc => ?_)
            · have hf := (OB_t hf hc)
              refine lv_aload_n hx hb dX8_reachFrom_50 rfl (lv_at hl 1 rfl) ?_
              refine gfX8_15 C hE hP dX8_reachFrom_51 ?_
              refine lv_iload_n hx hb dX8_reachFrom_54 rfl (lv_at hl 3 rfl) ?_
              refine lv_iload_n hx hb dX8_reachFrom_55 rfl (lv_at hl 0 rfl) ?_
              refine x_iast C hE hP hS sh119 g22 dX8_reachFrom_56 (fun H locs hP hS => ?_)
              exact (OB_some hf) _ _ _ hP hS (lv_sub hl [1, 2, 3] rfl)
            · have hf := (OB_f hf hc)
              refine lv_iload_n hx hb dX8_reachFrom_40 rfl (lv_at hl 0 rfl) ?_
              refine lv_aload_n hx hb dX8_reachFrom_41 rfl (lv_at hl 1 rfl) ?_
              refine gfX8_15 C hE hP dX8_reachFrom_42 ?_
              refine lv_iload_n hx hb dX8_reachFrom_45 rfl (lv_at hl 3 rfl) ?_
              refine x_iald C hE hP sh119 g22 dX8_reachFrom_46 ?_
              refine lv_icmp_ge (tgt := 57) hx hb dX8_reachFrom_47 (by decide) (fun hc => ?_) (fun hc => ?_)
              · have hf := (OB_t hf hc)
                exact (OB_some hf) _ _ _ hP hS (lv_sub hl [1, 2, 3] rfl)
              · have hf := (OB_f hf hc)
                refine lv_aload_n hx hb dX8_reachFrom_50 rfl (lv_at hl 1 rfl) ?_
                refine gfX8_15 C hE hP dX8_reachFrom_51 ?_
                refine lv_iload_n hx hb dX8_reachFrom_54 rfl (lv_at hl 3 rfl) ?_
                refine lv_iload_n hx hb dX8_reachFrom_55 rfl (lv_at hl 0 rfl) ?_
                refine x_iast C hE hP hS sh119 g22 dX8_reachFrom_56 (fun H locs hP hS => ?_)
                exact (OB_some hf) _ _ _ hP hS (lv_sub hl [1, 2, 3] rfl)
