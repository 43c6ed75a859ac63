def rm_X8_priceOfTree : Room := { frames := 1, cells := 0, slots := 0, locals := 24 }
set_option maxRecDepth 100000 in
set_option maxHeartbeats 8000000 in
theorem c_X8_priceOfTree {l : Launch} {G : GG} {a1 : Int32} {M : Mem} {h : Int64}  {P9 : (Int32 × Mem) → Prop} (hf : OB (f_X8_priceOfTree a1 M) P9) : Met1 l yX8_priceOfTree cX8_priceOfTree 6 (some .int) rm_X8_priceOfTree G [.ref (xa G 117), .int a1] M h (QI1 G h P9) := by
  unfold f_X8_priceOfTree at hf
  refine xm_i1 (by decide) (Nat.le_of_ble_eq_true rfl) ?_
  intro p e s m args below meth c ls Q C hE hret hP hS hl
  have C : CallFix p m c cX8_priceOfTree 6 s args TB RX8 := C
  have hx := C.1
  have hb := C.2.1
  have hl : lv_has ls 6 [(0, .ref (xa G 117)), (1, .int a1)] := hl
  refine lv_iconst (v := 0) hx hb dX8_priceOfTree_0 (by decide) ?_
  refine lv_istore_n (lv' := [(2, .int 0), (0, .ref (xa G 117)), (1, .int a1)]) hx hb dX8_priceOfTree_1 rfl hl (by decide) rfl (fun ls hl => ?_)
  refine lv_iconst (v := 0) hx hb dX8_priceOfTree_2 (by decide) ?_
  refine lv_istore_n (lv' := [(3, .int 0), (2, .int 0), (0, .ref (xa G 117)), (1, .int a1)]) hx hb dX8_priceOfTree_3 rfl hl (by decide) rfl (fun ls hl => ?_)
  refine lv_aload_n hx hb dX8_priceOfTree_4 rfl (lv_at hl 2 rfl) ?_
  refine gfX8_15 C hE hP dX8_priceOfTree_5 ?_
  refine lv_iconst (v := -1) hx hb dX8_priceOfTree_8 (by decide) ?_
  refine x_fill C hE hP hS hl.1 lkX8_74 sh119 (by decide) (by decide) (Nat.le_of_ble_eq_true rfl) dX8_priceOfTree_9 (fun H locs hP hS => ?_)
  refine lv_iload_n hx hb dX8_priceOfTree_12 rfl (lv_at hl 3 rfl) ?_
  refine x_ci0 (rest := []) (x_runS C hE hP hS ykJ6_numberOfTrailingZeros_0f7a4 lkX8_80 (c_J6_numberOfTrailingZeros_0f7a4 (OB_bind hf)) (by decide) rfl hl.1 (Nat.le_of_ble_eq_true rfl) dX8_priceOfTree_13) hS (fun r1 H locs hf hP hS => ?_)
  refine lv_istore (lv' := [(4, .int r1), (3, .int 0), (2, .int 0), (0, .ref (xa G 117)), (1, .int a1)]) hx hb dX8_priceOfTree_16 hl (by decide) rfl (fun ls hl => ?_)
  refine lv_iload_n hx hb dX8_priceOfTree_18 rfl (lv_at hl 4 rfl) ?_
  refine x_ci0 (rest := []) (x_runS C hE hP hS ykJ6_bitCount_0f7a4 lkX8_50 (c_J6_bitCount_0f7a4 (OB_bind hf)) (by decide) rfl hl.1 (Nat.le_of_ble_eq_true rfl) dX8_priceOfTree_19) hS (fun r2 H locs hf hP hS => ?_)
  refine lv_istore (lv' := [(5, .int r2), (4, .int r1), (3, .int 0), (2, .int 0), (0, .ref (xa G 117)), (1, .int a1)]) hx hb dX8_priceOfTree_22 hl (by decide) rfl (fun ls hl => ?_)
  refine xj (it_P (fun (zz : (Int32 × Mem)) => match zz with | (x32, M33) => ∀ (H : Heap) (locs : List Loc) (ls : Array Slot), va_P G.1 vwCl (wl G M33 h) H → va_S (Aw G) s.heap H locs → lv_has ls 6 [(3, .int x32)] → W p l e rm_X8_priceOfTree s m args below meth c H locs 0 0 Q (F0 m 78 ls [])) P9) hf ?_ (fun hf => ?_)
  · rintro (⟨x32, M33⟩ | v) hf
    · intro H locs ls hP hS hl
      refine lv_iload_n hx hb dX8_priceOfTree_78 rfl (lv_at hl 0 rfl) ?_
      exact hret _ _ _ _ _ _ (OB_some hf) hP hS dX8_priceOfTree_79
    · exact it_q hf
  · refine (it_W (fun (zz : (Int32 × Int32 × Int32 × Int32 × Mem)) => match zz with | (x27, x28, x29, x30, M31) => ∀ (H : Heap) (locs : List Loc) (ls : Array Slot), va_P G.1 vwCl (wl G M31 h) H → va_S (Aw G) s.heap H locs → lv_has ls 6 [(0, .ref (xa G 117)), (1, .int a1), (2, .int x27), (3, .int x28), (4, .int x29), (5, .int x30)] → W p l e rm_X8_priceOfTree s m args below meth c H locs 0 0 Q (F0 m 24 ls [])) hf ?_) _ _ _ hP hS (lv_sub hl [4, 5, 3, 2, 1, 0] rfl)
    rintro ⟨x27, x28, x29, x30, M31⟩ hf H locs ls hP hS hl
    unfold f_X8_priceOfTree_b24 at hf
    refine lv_iload hx hb dX8_priceOfTree_24 (lv_at hl 5 rfl) ?_
    refine lv_iconst (v := 1) hx hb dX8_priceOfTree_26 (by decide) ?_
    refine lv_icmp_le (tgt := 78) hx hb dX8_priceOfTree_27 (by decide) (fun hc => ?_) (fun hc => ?_)
    · have hf := (OB_t hf hc)
      exact (it_e hf) _ _ _ hP hS (lv_sub hl [3] rfl)
    · have hf := (OB_f hf hc)
      refine lv_iload_n hx hb dX8_priceOfTree_30 rfl (lv_at hl 2 rfl) ?_
      refine lv_iconst (v := 1) hx hb dX8_priceOfTree_31 (by decide) ?_
      refine lv_iload hx hb dX8_priceOfTree_32 (lv_at hl 4 rfl) ?_
      refine x_ishl C dX8_priceOfTree_34 ?_
      refine lv_ior hx hb dX8_priceOfTree_35 ?_
      refine lv_istore_n (lv' := [(2, .int (x27 ||| (jshl 1 x29))), (0, .ref (xa G 117)), (1, .int a1), (3, .int x28), (4, .int x29), (5, .int x30)]) hx hb dX8_priceOfTree_36 rfl hl (by decide) rfl (fun ls hl => ?_)
      refine lv_aload_n hx hb dX8_priceOfTree_37 rfl (lv_at hl 1 rfl) ?_
      refine lv_iload hx hb dX8_priceOfTree_38 (lv_at hl 4 rfl) ?_
      refine x_cv1 (rest := []) (x_runV C hE hP hS ykX8_reachFrom lkX8_83 sh117 rfl (c_X8_reachFrom (OB_bind hf)) (by decide) rfl hl.1 (Nat.le_of_ble_eq_true rfl) dX8_priceOfTree_40) hS (fun M34 H locs hf hP hS => ?_)
      refine lv_aload_n hx hb dX8_priceOfTree_43 rfl (lv_at hl 1 rfl) ?_
      refine lv_iload_n hx hb dX8_priceOfTree_44 rfl (lv_at hl 2 rfl) ?_
      refine lv_iload_n hx hb dX8_priceOfTree_45 rfl (lv_at hl 0 rfl) ?_
      refine lv_iconst (v := -1) hx hb dX8_priceOfTree_46 (by decide) ?_
      refine lv_ixor hx hb dX8_priceOfTree_47 ?_
      refine lv_iand hx hb dX8_priceOfTree_48 ?_
      refine x_ci0 (rest := []) (x_runV C hE hP hS ykX8_nearest lkX8_87 sh117 rfl (c_X8_nearest (OB_bind hf)) (by decide) rfl hl.1 (Nat.le_of_ble_eq_true rfl) dX8_priceOfTree_49) hS (fun r35 H locs hf hP hS => ?_)
      refine lv_istore (lv' := [(4, .int r35), (2, .int (x27 ||| (jshl 1 x29))), (0, .ref (xa G 117)), (1, .int a1), (3, .int x28), (5, .int x30)]) hx hb dX8_priceOfTree_52 hl (by decide) rfl (fun ls hl => ?_)
      refine lv_iload hx hb dX8_priceOfTree_54 (lv_at hl 0 rfl) ?_
      refine lv_iconst (v := -1) hx hb dX8_priceOfTree_56 (by decide) ?_
      refine lv_icmp_ne (tgt := 62) hx hb dX8_priceOfTree_57 (by decide) (fun hc => ?_) (fun hc => ?_)
      · have hf := (OB_f hf hc)
        refine lv_iload_n hx hb dX8_priceOfTree_62 rfl (lv_at hl 4 rfl) ?_
        refine lv_aload_n hx hb dX8_priceOfTree_63 rfl (lv_at hl 2 rfl) ?_
        refine gfX8_15 C hE hP dX8_priceOfTree_64 ?_
        refine lv_iload hx hb dX8_priceOfTree_67 (lv_at hl 0 rfl) ?_
        obtain ⟨g36, hf⟩ := OB_g hf
        refine x_iald C hE hP sh119 g36 dX8_priceOfTree_69 ?_
        refine lv_iadd hx hb dX8_priceOfTree_70 ?_
        refine lv_istore_n (lv' := [(3, .int (x28 + (M34 119 (Int32.toNatClampNeg r35)))), (4, .int r35), (2, .int (x27 ||| (jshl 1 x29))), (0, .ref (xa G 117)), (1, .int a1), (5, .int x30)]) hx hb dX8_priceOfTree_71 rfl hl (by decide) rfl (fun ls hl => ?_)
        refine lv_iinc (v := (x30 + (-1))) (lv' := [(5, .int (x30 + (-1))), (3, .int (x28 + (M34 119 (Int32.toNatClampNeg r35)))), (4, .int r35), (2, .int (x27 ||| (jshl 1 x29))), (0, .ref (xa G 117)), (1, .int a1)]) hx hb dX8_priceOfTree_72 hl (k := 5) rfl rfl (by decide) rfl (fun ls hl => ?_)
        refine lv_goto (tgt := 24) hx hb dX8_priceOfTree_75 (by decide) ?_
        exact (it_c hf) _ _ _ hP hS (lv_sub hl [4, 5, 3, 1, 2, 0] rfl)
      · have hf := (OB_t hf hc)
        refine lv_iconst (v := -1) hx hb dX8_priceOfTree_60 (by decide) ?_
        exact hret _ _ _ _ _ _ (it_r hf) hP hS dX8_priceOfTree_61
def rm_X8_take : Room := { frames := 1, cells := 0, slots := 0, locals := 20 }
set_option maxRecDepth 100000 in
set_option maxHeartbeats 8000000 in
theorem c_X8_take {l : Launch} {G : GG} {a1 : Int32} {a2 : Int32} {M : Mem} {h : Int64}  {P9 : Mem → Prop} (hf : OB (f_X8_take a1 a2 M) P9) : Met1 l yX8_take cX8_take 4 none rm_X8_take G [.ref (xa G 117), .int a1, .int a2] M h (QV1 G h P9) := by
  unfold f_X8_take at hf
  refine xm_v1 (by decide) (Nat.le_of_ble_eq_true rfl) ?_
  intro p e s m args below meth c ls Q C hE hret hP hS hl
  have C : CallFix p m c cX8_take 4 s args TB RX8 := C
  have hx := C.1
  have hb := C.2.1
  have hl : lv_has ls 4 [(0, .ref (xa G 117)), (1, .int a1), (2, .int a2)] := hl
  refine lv_iload_n hx hb dX8_take_0 rfl (lv_at hl 2 rfl) ?_
  refine lv_iconst (v := -1) hx hb dX8_take_1 (by decide) ?_
  refine lv_icmp_ne (tgt := 6) hx hb dX8_take_2 (by decide) (fun hc => ?_) (fun hc => ?_)
  · have hf := (OB_f hf hc)
    refine lv_iload_n hx hb dX8_take_6 rfl (lv_at hl 2 rfl) ?_
    refine lv_aload_n hx hb dX8_take_7 rfl (lv_at hl 0 rfl) ?_
    refine gfX8_36 C hE hP dX8_take_8 ?_
    refine xj (fun (x5 : Bool) => ∀ (H : Heap) (locs : List Loc) (ls : Array Slot), va_P G.1 vwCl (wl G M h) H → va_S (Aw G) s.heap H locs → lv_has ls 4 [(0, .ref (xa G 117)), (1, .int a1), (2, .int a2)] → W p l e rm_X8_take s m args below meth c H locs 0 0 Q (F0 m 33 ls [.int (bI x5)])) hf ?_ (fun hf => ?_)
    · rintro x5 hf H locs ls hP hS hl
      refine lv_istore_n (lv' := [(3, .int (bI x5)), (0, .ref (xa G 117)), (1, .int a1), (2, .int a2)]) hx hb dX8_take_33 rfl hl (by decide) rfl (fun ls hl => ?_)
      refine lv_aload_n hx hb dX8_take_34 rfl (lv_at hl 1 rfl) ?_
      refine gfX8_36 C hE hP dX8_take_35 ?_
      refine lv_iconst (v := -1) hx hb dX8_take_38 (by decide) ?_
      refine xj (fun (M8 : Mem) => ∀ (H : Heap) (locs : List Loc) (ls : Array Slot), va_P G.1 vwCl (wl G M8 h) H → va_S (Aw G) s.heap H locs → lv_has ls 4 [] → W p l e rm_X8_take s m args below meth c H locs 0 0 Q (F0 m 64 ls [])) hf ?_ (fun hf => ?_)
      · rintro M8 hf H locs ls hP hS hl
        exact hret _ _ _ _ _ (OB_some hf) hP hS dX8_take_64
      · skip
        refine lv_icmp_eq (tgt := 54) hx hb dX8_take_39 (by decide) (fun hc => ?_) (fun hc => ?_)
        · have hf := (OB_t hf hc)
          refine lv_aload_n hx hb dX8_take_54 rfl (lv_at hl 1 rfl) ?_
          refine lv_iload_n hx hb dX8_take_55 rfl (lv_at hl 3 rfl) ?_
          refine pfX8_36 C hE hP hS dX8_take_56 (fun H locs hP hS => ?_)
          refine lv_aload_n hx hb dX8_take_59 rfl (lv_at hl 1 rfl) ?_
          refine lv_iload_n hx hb dX8_take_60 rfl (lv_at hl 2 rfl) ?_
          refine pfX8_40 C hE hP hS dX8_take_61 (fun H locs hP hS => ?_)
          exact (OB_some hf) _ _ _ hP hS (lv_sub hl [] rfl)
        · have hf := (OB_f hf hc)
          refine lv_iload_n hx hb dX8_take_42 rfl (lv_at hl 3 rfl) ?_
          refine lv_aload_n hx hb dX8_take_43 rfl (lv_at hl 1 rfl) ?_
          refine gfX8_36 C hE hP dX8_take_44 ?_
          have hj54 : ∀ (H : Heap) (locs : List Loc) (ls : Array Slot), OB (f_X8_take_j54_0 a1 a2 M) (fun (M8 : Mem) => ∀ (H : Heap) (locs : List Loc) (ls : Array Slot), va_P G.1 vwCl (wl G M8 h) H → va_S (Aw G) s.heap H locs → lv_has ls 4 [] → W p l e rm_X8_take s m args below meth c H locs 0 0 Q (F0 m 64 ls [])) → va_P G.1 vwCl (wl G M h) H → va_S (Aw G) s.heap H locs → lv_has ls 4 [(0, .ref (xa G 117)), (1, .int a1), (2, .int a2)] → W p l e rm_X8_take s m args below meth c H locs 0 0 Q (F0 m 54 ls []) := by
            intro  H locs ls hf hP hS hl
            refine lv_aload_n hx hb dX8_take_54 rfl (lv_at hl 0 rfl) ?_
            refine lv_iload_n hx hb dX8_take_55 rfl (lv_at hl 2 rfl) ?_
            refine pfX8_36 C hE hP hS dX8_take_56 (fun H locs hP hS => ?_)
            refine lv_aload_n hx hb dX8_take_59 rfl (lv_at hl 0 rfl) ?_
            refine lv_iload_n hx hb dX8_take_60 rfl (lv_at hl 1 rfl) ?_
            refine pfX8_40 C hE hP hS dX8_take_61 (fun H locs hP hS => ?_)
            exact (OB_some hf) _ _ _ hP hS (lv_sub hl [] rfl)
          refine lv_icmp_lt (tgt := 54) hx hb dX8_take_47 (by decide) (fun hc => ?_) (fun hc => ?_)
          · have hf := (OB_t hf hc)
            exact hj54  _ _ _ hf hP hS (lv_sub hl [1, 2, 3] rfl)
          · have hf := (OB_f hf hc)
            refine lv_iload_n hx hb dX8_take_50 rfl (lv_at hl 0 rfl) ?_
            refine lv_if_eq (tgt := 64) hx hb dX8_take_51 (by decide) (fun hc => ?_) (fun hc => ?_)
            · have hf := (OB_f hf (bI_f hc))
              exact (OB_some hf) _ _ _ hP hS (lv_sub hl [] rfl)
            · have hf := (OB_t hf (bI_t hc))
              exact hj54  _ _ _ hf hP hS (lv_sub hl [1, 2, 3] rfl)
    · skip
      refine lv_icmp_ne (tgt := 32) hx hb dX8_take_11 (by decide) (fun hc => ?_) (fun hc => ?_)
      · have hf := (OB_f hf hc)
        refine lv_iconst (v := 0) hx hb dX8_take_32 (by decide) ?_
        refine W.eq (g2 := F0 m 33 ls [.int (bI false)]) rfl ?_
        exact (OB_some hf) _ _ _ hP hS (lv_sub hl [0, 1, 2] rfl)
      · have hf := (OB_t hf hc)
        refine lv_iload_n hx hb dX8_take_14 rfl (lv_at hl 1 rfl) ?_
        refine x_ci0 (rest := []) (x_runS C hE hP hS ykJ6_bitCount_0f7a4 lkX8_50 (c_J6_bitCount_0f7a4 (OB_bind hf)) (by decide) rfl hl.1 (Nat.le_of_ble_eq_true rfl) dX8_take_15) hS (fun r6 H locs hf hP hS => ?_)
        refine lv_aload_n hx hb dX8_take_18 rfl (lv_at hl 0 rfl) ?_
        refine gfX8_40 C hE hP dX8_take_19 ?_
        refine x_ci0 (rest := [.int r6]) (x_runS C hE hP hS ykJ6_bitCount_0f7a4 lkX8_50 (c_J6_bitCount_0f7a4 (OB_bind hf)) (by decide) rfl hl.1 (Nat.le_of_ble_eq_true rfl) dX8_take_22) hS (fun r7 H locs hf hP hS => ?_)
        refine lv_icmp_ge (tgt := 32) hx hb dX8_take_25 (by decide) (fun hc => ?_) (fun hc => ?_)
        · have hf := (OB_t hf hc)
          refine lv_iconst (v := 0) hx hb dX8_take_32 (by decide) ?_
          refine W.eq (g2 := F0 m 33 ls [.int (bI false)]) rfl ?_
          exact (OB_some hf) _ _ _ hP hS (lv_sub hl [0, 1, 2] rfl)
        · have hf := (OB_f hf hc)
          refine lv_iconst (v := 1) hx hb dX8_take_28 (by decide) ?_
          refine lv_goto (tgt := 33) hx hb dX8_take_29 (by decide) ?_
          refine W.eq (g2 := F0 m 33 ls [.int (bI true)]) rfl ?_
          exact (OB_some hf) _ _ _ hP hS (lv_sub hl [0, 1, 2] rfl)
  · have hf := (OB_t hf hc)
    exact hret _ _ _ _ _ (OB_some hf) hP hS dX8_take_5
def rm_X8_solve : Room := { frames := 4, cells := 0, slots := 0, locals := 102 }
set_option maxRecDepth 100000 in
set_option maxHeartbeats 8000000 in
theorem c_X8_solve {l : Launch} {G : GG} {P1 : Nat} {a2 : Int32} {M : Mem} {h : Int64} (hP1 : isHolder P1) {P9 : (Int32 × Mem) → Prop} (hf : OB (f_X8_solve P1 a2 M) P9) : Met1 l yX8_solve cX8_solve 5 (some .int) rm_X8_solve G [.ref (xa G 117), .ref (xa G P1), .int a2] M h (QI1 G h P9) := by
  unfold f_X8_solve at hf
  refine xm_i1 (by decide) (Nat.le_of_ble_eq_true rfl) ?_
  intro p e s m args below meth c ls Q C hE hret hP hS hl
  have C : CallFix p m c cX8_solve 5 s args TB RX8 := C
  have hx := C.1
  have hb := C.2.1
  have hl : lv_has ls 5 [(0, .ref (xa G 117)), (1, .ref (xa G P1)), (2, .int a2)] := hl
  refine lv_aload_n hx hb dX8_solve_0 rfl (lv_at hl 0 rfl) ?_
  refine lv_aload_n hx hb dX8_solve_1 rfl (lv_at hl 1 rfl) ?_
  refine lv_iload_n hx hb dX8_solve_2 rfl (lv_at hl 2 rfl) ?_
  refine x_cv1 (rest := []) (x_runV C hE hP hS ykX8_ask lkX8_26 sh117 rfl (c_X8_ask hP1 (OB_bind hf)) (by decide) rfl hl.1 (Nat.le_of_ble_eq_true rfl) dX8_solve_3) hS (fun M1 H locs hf hP hS => ?_)
  refine lv_aload_n hx hb dX8_solve_6 rfl (lv_at hl 0 rfl) ?_
  refine gfX8_22 C hE hP dX8_solve_7 ?_
  refine lv_iload_n hx hb dX8_solve_10 rfl (lv_at hl 2 rfl) ?_
  refine x_ci0 (rest := []) (x_runV C hE hP hS ykX0_landsOf lkX8_30 sh114 rfl (c_X0_landsOf (OB_bind hf)) (by decide) rfl hl.1 (Nat.le_of_ble_eq_true rfl) dX8_solve_11) hS (fun r2 H locs hf hP hS => ?_)
  refine lv_istore_n (lv' := [(3, .int r2), (0, .ref (xa G 117)), (1, .ref (xa G P1)), (2, .int a2)]) hx hb dX8_solve_14 rfl hl (by decide) rfl (fun ls hl => ?_)
  refine lv_aload_n hx hb dX8_solve_15 rfl (lv_at hl 1 rfl) ?_
  refine lv_iconst (v := -1) hx hb dX8_solve_16 (by decide) ?_
  refine pfX8_36 C hE hP hS dX8_solve_17 (fun H locs hP hS => ?_)
  refine lv_aload_n hx hb dX8_solve_20 rfl (lv_at hl 1 rfl) ?_
  refine lv_iconst (v := -1) hx hb dX8_solve_21 (by decide) ?_
  refine pfX8_40 C hE hP hS dX8_solve_22 (fun H locs hP hS => ?_)
  refine lv_iconst (v := 0) hx hb dX8_solve_25 (by decide) ?_
  refine lv_istore (lv' := [(4, .int 0), (3, .int r2), (0, .ref (xa G 117)), (1, .ref (xa G P1)), (2, .int a2)]) hx hb dX8_solve_26 hl (by decide) rfl (fun ls hl => ?_)
  refine xj (fun (M29 : Mem) => ∀ (H : Heap) (locs : List Loc) (ls : Array Slot), va_P G.1 vwCl (wl G M29 h) H → va_S (Aw G) s.heap H locs → lv_has ls 5 [(0, .ref (xa G 117))] → W p l e rm_X8_solve s m args below meth c H locs 0 0 Q (F0 m 62 ls [])) hf ?_ (fun hf => ?_)
  · rintro M29 hf H locs ls hP hS hl
    refine lv_aload_n hx hb dX8_solve_62 rfl (lv_at hl 0 rfl) ?_
    refine gfX8_36 C hE hP dX8_solve_63 ?_
    exact hret _ _ _ _ _ _ (OB_some hf) hP hS dX8_solve_66
  · refine (it_W (fun (zz : (Int32 × Mem)) => match zz with | (x27, M28) => ∀ (H : Heap) (locs : List Loc) (ls : Array Slot), va_P G.1 vwCl (wl G M28 h) H → va_S (Aw G) s.heap H locs → lv_has ls 5 [(0, .ref (xa G 117)), (3, .int r2), (4, .int x27)] → W p l e rm_X8_solve s m args below meth c H locs 0 0 Q (F0 m 28 ls [])) hf ?_) _ _ _ hP hS (lv_sub hl [2, 1, 0] rfl)
    rintro ⟨x27, M28⟩ hf H locs ls hP hS hl
    unfold f_X8_solve_b28 at hf
    refine lv_iload hx hb dX8_solve_28 (lv_at hl 2 rfl) ?_
    refine lv_bipush (v := 64) hx hb dX8_solve_30 (by decide) ?_
    refine lv_icmp_ge (tgt := 62) hx hb dX8_solve_32 (by decide) (fun hc => ?_) (fun hc => ?_)
    · have hf := (OB_t hf hc)
      exact (it_e hf) _ _ _ hP hS (lv_sub hl [0] rfl)
    · have hf := (OB_f hf hc)
      refine lv_iload hx hb dX8_solve_35 (lv_at hl 2 rfl) ?_
      refine lv_iload_n hx hb dX8_solve_37 rfl (lv_at hl 1 rfl) ?_
      refine lv_iand hx hb dX8_solve_38 ?_
      refine xj (fun (M36 : Mem) => ∀ (H : Heap) (locs : List Loc) (ls : Array Slot), va_P G.1 vwCl (wl G M36 h) H → va_S (Aw G) s.heap H locs → lv_has ls 5 [(0, .ref (xa G 117)), (3, .int r2), (4, .int x27)] → W p l e rm_X8_solve s m args below meth c H locs 0 0 Q (F0 m 56 ls [])) hf ?_ (fun hf => ?_)
      · rintro M36 hf H locs ls hP hS hl
        refine lv_iinc (v := (x27 + 1)) (lv' := [(4, .int (x27 + 1)), (0, .ref (xa G 117)), (3, .int r2)]) hx hb dX8_solve_56 hl (k := 2) rfl rfl (by decide) rfl (fun ls hl => ?_)
        refine lv_goto (tgt := 28) hx hb dX8_solve_59 (by decide) ?_
        exact (it_c hf) _ _ _ hP hS (lv_sub hl [1, 2, 0] rfl)
      · skip
        refine lv_if_ne (tgt := 56) hx hb dX8_solve_39 (by decide) (fun hc => ?_) (fun hc => ?_)
        · have hf := (OB_f hf hc)
          exact (OB_some hf) _ _ _ hP hS (lv_sub hl [0, 1, 2] rfl)
        · have hf := (OB_t hf hc)
          refine lv_aload_n hx hb dX8_solve_42 rfl (lv_at hl 0 rfl) ?_
          refine lv_iload hx hb dX8_solve_43 (lv_at hl 2 rfl) ?_
          refine lv_aload_n hx hb dX8_solve_45 rfl (lv_at hl 0 rfl) ?_
          refine lv_iload hx hb dX8_solve_46 (lv_at hl 2 rfl) ?_
          refine lv_iload_n hx hb dX8_solve_48 rfl (lv_at hl 1 rfl) ?_
          refine lv_ior hx hb dX8_solve_49 ?_
          refine x_ci1 (rest := [.int x27, .ref (xa G 117)]) (x_runV C hE hP hS ykX8_priceOfTree lkX8_43 sh117 rfl (c_X8_priceOfTree (OB_bind hf)) (by decide) rfl hl.1 (Nat.le_of_ble_eq_true rfl) dX8_solve_50) hS (fun r37 M38 H locs hf hP hS => ?_)
          refine x_cv1 (rest := []) (x_runV C hE hP hS ykX8_take lkX8_46 sh117 rfl (c_X8_take (OB_bind hf)) (by decide) rfl hl.1 (Nat.le_of_ble_eq_true rfl) dX8_solve_53) hS (fun M39 H locs hf hP hS => ?_)
          exact (OB_some hf) _ _ _ hP hS (lv_sub hl [0, 1, 2] rfl)
def rm_X8_differenceOf : Room := { frames := 5, cells := 0, slots := 0, locals := 126 }
set_option maxRecDepth 100000 in
set_option maxHeartbeats 8000000 in
theorem c_X8_differenceOf {l : Launch} {G : GG} {P1 : Nat} {P2 : Nat} {a3 : Int32} {M : Mem} {h : Int64} (hP1 : isHolder P1) (hP2 : isHolder P2) {P9 : (Int32 × Mem) → Prop} (hf : OB (f_X8_differenceOf P1 P2 a3 M) P9) : Met1 l yX8_differenceOf cX8_differenceOf 6 (some .int) rm_X8_differenceOf G [.ref (xa G 117), .ref (xa G P1), .ref (xa G P2), .int a3] M h (QI1 G h P9) := by
  unfold f_X8_differenceOf at hf
  refine xm_i1 (by decide) (Nat.le_of_ble_eq_true rfl) ?_
  intro p e s m args below meth c ls Q C hE hret hP hS hl
  have C : CallFix p m c cX8_differenceOf 6 s args TB RX8 := C
  have hx := C.1
  have hb := C.2.1
  have hl : lv_has ls 6 [(0, .ref (xa G 117)), (1, .ref (xa G P1)), (2, .ref (xa G P2)), (3, .int a3)] := hl
  refine lv_aload_n hx hb dX8_differenceOf_0 rfl (lv_at hl 0 rfl) ?_
  refine lv_aload_n hx hb dX8_differenceOf_1 rfl (lv_at hl 1 rfl) ?_
  refine lv_iload_n hx hb dX8_differenceOf_2 rfl (lv_at hl 3 rfl) ?_
  refine x_ci1 (rest := []) (x_runV C hE hP hS ykX8_solve lkX8_90 sh117 rfl (c_X8_solve hP1 (OB_bind hf)) (by decide) rfl hl.1 (Nat.le_of_ble_eq_true rfl) dX8_differenceOf_3) hS (fun r1 M2 H locs hf hP hS => ?_)
  refine lv_istore (lv' := [(4, .int r1), (0, .ref (xa G 117)), (1, .ref (xa G P1)), (2, .ref (xa G P2)), (3, .int a3)]) hx hb dX8_differenceOf_6 hl (by decide) rfl (fun ls hl => ?_)
  refine lv_aload_n hx hb dX8_differenceOf_8 rfl (lv_at hl 1 rfl) ?_
  refine lv_aload_n hx hb dX8_differenceOf_9 rfl (lv_at hl 3 rfl) ?_
  refine lv_iload_n hx hb dX8_differenceOf_10 rfl (lv_at hl 4 rfl) ?_
  refine x_ci1 (rest := []) (x_runV C hE hP hS ykX8_solve lkX8_90 sh117 rfl (c_X8_solve hP2 (OB_bind hf)) (by decide) rfl hl.1 (Nat.le_of_ble_eq_true rfl) dX8_differenceOf_11) hS (fun r3 M4 H locs hf hP hS => ?_)
  refine lv_istore (lv' := [(5, .int r3), (4, .int r1), (0, .ref (xa G 117)), (1, .ref (xa G P1)), (2, .ref (xa G P2)), (3, .int a3)]) hx hb dX8_differenceOf_14 hl (by decide) rfl (fun ls hl => ?_)
  refine lv_iload hx hb dX8_differenceOf_16 (lv_at hl 1 rfl) ?_
  refine lv_iconst (v := -1) hx hb dX8_differenceOf_18 (by decide) ?_
  refine xj (fun (x5 : Int32) => ∀ (H : Heap) (locs : List Loc) (ls : Array Slot), va_P G.1 vwCl (wl G M4 h) H → va_S (Aw G) s.heap H locs → lv_has ls 6 [(5, .int r3)] → W p l e rm_X8_differenceOf s m args below meth c H locs 0 0 Q (F0 m 30 ls [.int x5])) hf ?_ (fun hf => ?_)
  · rintro x5 hf H locs ls hP hS hl
    refine lv_iload hx hb dX8_differenceOf_30 (lv_at hl 0 rfl) ?_
    refine lv_iconst (v := -1) hx hb dX8_differenceOf_32 (by decide) ?_
    refine xj (fun (x6 : Int32) => ∀ (H : Heap) (locs : List Loc) (ls : Array Slot), va_P G.1 vwCl (wl G M4 h) H → va_S (Aw G) s.heap H locs → lv_has ls 6 [] → W p l e rm_X8_differenceOf s m args below meth c H locs 0 0 Q (F0 m 44 ls [.int x6, .int x5])) hf ?_ (fun hf => ?_)
    · rintro x6 hf H locs ls hP hS hl
      refine lv_isub hx hb dX8_differenceOf_44 ?_
      refine x_mabs C hl.1 lkX8_94 (by decide) (Nat.le_of_ble_eq_true rfl) dX8_differenceOf_45 ?_
      exact hret _ _ _ _ _ _ (OB_some hf) hP hS dX8_differenceOf_48
    · skip
      refine lv_icmp_ne (tgt := 42) hx hb dX8_differenceOf_33 (by decide) (fun hc => ?_) (fun hc => ?_)
      · have hf := (OB_f hf hc)
        refine lv_iload hx hb dX8_differenceOf_42 (lv_at hl 0 rfl) ?_
        exact (OB_some hf) _ _ _ hP hS (lv_sub hl [] rfl)
      · have hf := (OB_t hf hc)
        refine lv_sipush (v := 999) hx hb dX8_differenceOf_36 (by decide) ?_
        refine lv_goto (tgt := 44) hx hb dX8_differenceOf_39 (by decide) ?_
        exact (OB_some hf) _ _ _ hP hS (lv_sub hl [] rfl)
  · skip
    refine lv_icmp_ne (tgt := 28) hx hb dX8_differenceOf_19 (by decide) (fun hc => ?_) (fun hc => ?_)
    · have hf := (OB_f hf hc)
      refine lv_iload hx hb dX8_differenceOf_28 (lv_at hl 1 rfl) ?_
      exact (OB_some hf) _ _ _ hP hS (lv_sub hl [0] rfl)
    · have hf := (OB_t hf hc)
      refine lv_sipush (v := 999) hx hb dX8_differenceOf_22 (by decide) ?_
      refine lv_goto (tgt := 30) hx hb dX8_differenceOf_25 (by decide) ?_
      exact (OB_some hf) _ _ _ hP hS (lv_sub hl [0] rfl)
def rm_X8_told : Room := { frames := 5, cells := 0, slots := 0, locals := 126 }
set_option maxRecDepth 100000 in
set_option maxHeartbeats 8000000 in
theorem c_X8_told {l : Launch} {G : GG} {a1 : Int64} {P3 : Nat} {P4 : Nat} {M : Mem} {h : Int64} (hP3 : isHolder P3) (hP4 : isHolder P4) {P9 : (Int64 × Mem) → Prop} (hf : OB (f_X8_told a1 P3 P4 M) P9) : Met1 l yX8_told cX8_told 6 (some .long) rm_X8_told G [.ref (xa G 117), .long a1, .ref (xa G P3), .ref (xa G P4)] M h (QL1 G h P9) := by
  unfold f_X8_told at hf
  refine xm_l1 (by decide) (Nat.le_of_ble_eq_true rfl) ?_
  intro p e s m args below meth c ls Q C hE hret hP hS hl
  have C : CallFix p m c cX8_told 6 s args TB RX8 := C
  have hx := C.1
  have hb := C.2.1
  have hl : lv_has ls 6 [(0, .ref (xa G 117)), (1, .long a1), (3, .ref (xa G P3)), (4, .ref (xa G P4))] := hl
  refine lv_iconst (v := 0) hx hb dX8_told_0 (by decide) ?_
  refine lv_istore (lv' := [(5, .int 0), (0, .ref (xa G 117)), (1, .long a1), (3, .ref (xa G P3)), (4, .ref (xa G P4))]) hx hb dX8_told_1 hl (by decide) rfl (fun ls hl => ?_)
  refine xj (fun (zz : (Int64 × Mem)) => match zz with | (x32, M33) => ∀ (H : Heap) (locs : List Loc) (ls : Array Slot), va_P G.1 vwCl (wl G M33 h) H → va_S (Aw G) s.heap H locs → lv_has ls 6 [(1, .long x32)] → W p l e rm_X8_told s m args below meth c H locs 0 0 Q (F0 m 78 ls [])) hf ?_ (fun hf => ?_)
  · rintro ⟨x32, M33⟩ hf H locs ls hP hS hl
    refine lv_lload_n hx hb dX8_told_78 rfl (lv_at hl 0 rfl) ?_
    exact hret _ _ _ _ _ _ (OB_some hf) hP hS dX8_told_79
  · refine (it_W (fun (zz : (Int64 × Int32 × Mem)) => match zz with | (x29, x30, M31) => ∀ (H : Heap) (locs : List Loc) (ls : Array Slot), va_P G.1 vwCl (wl G M31 h) H → va_S (Aw G) s.heap H locs → lv_has ls 6 [(0, .ref (xa G 117)), (1, .long x29), (3, .ref (xa G P3)), (4, .ref (xa G P4)), (5, .int x30)] → W p l e rm_X8_told s m args below meth c H locs 0 0 Q (F0 m 3 ls [])) hf ?_) _ _ _ hP hS (lv_sub hl [1, 2, 3, 4, 0] rfl)
    rintro ⟨x29, x30, M31⟩ hf H locs ls hP hS hl
    unfold f_X8_told_b3 at hf
    refine lv_iload hx hb dX8_told_3 (lv_at hl 4 rfl) ?_
    refine lv_aload_n hx hb dX8_told_5 rfl (lv_at hl 0 rfl) ?_
    refine gfX8_22 C hE hP dX8_told_6 ?_
    refine x_ci0 (rest := [.int x30]) (x_runV C hE hP hS ykX0_size lkX8_99 sh114 rfl (c_X0_size (OB_bind hf)) (by decide) rfl hl.1 (Nat.le_of_ble_eq_true rfl) dX8_told_9) hS (fun r34 H locs hf hP hS => ?_)
    refine lv_icmp_ge (tgt := 78) hx hb dX8_told_12 (by decide) (fun hc => ?_) (fun hc => ?_)
    · have hf := (OB_t hf hc)
      exact (it_e hf) _ _ _ hP hS (lv_sub hl [1] rfl)
    · have hf := (OB_f hf hc)
      refine lv_lload_n hx hb dX8_told_15 rfl (lv_at hl 1 rfl) ?_
      refine lv_aload_n hx hb dX8_told_16 rfl (lv_at hl 0 rfl) ?_
      refine gfX8_22 C hE hP dX8_told_17 ?_
      refine lv_iload hx hb dX8_told_20 (lv_at hl 4 rfl) ?_
      refine x_ci0 (rest := [.long x29]) (x_runV C hE hP hS ykX0_landsOf lkX8_30 sh114 rfl (c_X0_landsOf (OB_bind hf)) (by decide) rfl hl.1 (Nat.le_of_ble_eq_true rfl) dX8_told_22) hS (fun r35 H locs hf hP hS => ?_)
      refine lv_i2l hx hb dX8_told_25 rfl ?_
      refine x_cl0 (rest := []) (x_runSN C hE hP hS ykX11_then lkX8_103 (c_X11_then (OB_bind hf)) (by decide) rfl hl.1 (Nat.le_of_ble_eq_true rfl) dX8_told_26) hS (fun r36 H locs hf hP hS => ?_)
      refine lv_lstore_n (lv' := [(1, .long r36), (0, .ref (xa G 117)), (3, .ref (xa G P3)), (4, .ref (xa G P4)), (5, .int x30)]) hx hb dX8_told_29 rfl hl (by decide) rfl (fun ls hl => ?_)
      refine lv_lload_n hx hb dX8_told_30 rfl (lv_at hl 0 rfl) ?_
      refine lv_aload_n hx hb dX8_told_31 rfl (lv_at hl 1 rfl) ?_
      refine gfX8_22 C hE hP dX8_told_32 ?_
      refine lv_iload hx hb dX8_told_35 (lv_at hl 4 rfl) ?_
      refine x_ci0 (rest := [.long r36]) (x_runV C hE hP hS ykX0_ageOf lkX8_55 sh114 rfl (c_X0_ageOf (OB_bind hf)) (by decide) rfl hl.1 (Nat.le_of_ble_eq_true rfl) dX8_told_37) hS (fun r37 H locs hf hP hS => ?_)
      refine lv_i2l hx hb dX8_told_40 rfl ?_
      refine x_cl0 (rest := []) (x_runSN C hE hP hS ykX11_then lkX8_103 (c_X11_then (OB_bind hf)) (by decide) rfl hl.1 (Nat.le_of_ble_eq_true rfl) dX8_told_41) hS (fun r38 H locs hf hP hS => ?_)
      refine lv_lstore_n (lv' := [(1, .long r38), (0, .ref (xa G 117)), (3, .ref (xa G P3)), (4, .ref (xa G P4)), (5, .int x30)]) hx hb dX8_told_44 rfl hl (by decide) rfl (fun ls hl => ?_)
      refine lv_lload_n hx hb dX8_told_45 rfl (lv_at hl 0 rfl) ?_
      refine lv_aload_n hx hb dX8_told_46 rfl (lv_at hl 1 rfl) ?_
      refine lv_aload_n hx hb dX8_told_47 rfl (lv_at hl 2 rfl) ?_
      refine lv_iload hx hb dX8_told_48 (lv_at hl 4 rfl) ?_
      refine x_ci1 (rest := [.long r38]) (x_runV C hE hP hS ykX8_solve lkX8_90 sh117 rfl (c_X8_solve hP3 (OB_bind hf)) (by decide) rfl hl.1 (Nat.le_of_ble_eq_true rfl) dX8_told_50) hS (fun r39 M40 H locs hf hP hS => ?_)
      refine lv_i2l hx hb dX8_told_53 rfl ?_
      refine x_cl0 (rest := []) (x_runSN C hE hP hS ykX11_then lkX8_103 (c_X11_then (OB_bind hf)) (by decide) rfl hl.1 (Nat.le_of_ble_eq_true rfl) dX8_told_54) hS (fun r41 H locs hf hP hS => ?_)
      refine lv_lstore_n (lv' := [(1, .long r41), (0, .ref (xa G 117)), (3, .ref (xa G P3)), (4, .ref (xa G P4)), (5, .int x30)]) hx hb dX8_told_57 rfl hl (by decide) rfl (fun ls hl => ?_)
      refine lv_lload_n hx hb dX8_told_58 rfl (lv_at hl 0 rfl) ?_
      refine lv_aload_n hx hb dX8_told_59 rfl (lv_at hl 1 rfl) ?_
      refine lv_aload hx hb dX8_told_60 (lv_at hl 3 rfl) ?_
      refine lv_iload hx hb dX8_told_62 (lv_at hl 4 rfl) ?_
      refine x_ci1 (rest := [.long r41]) (x_runV C hE hP hS ykX8_solve lkX8_90 sh117 rfl (c_X8_solve hP4 (OB_bind hf)) (by decide) rfl hl.1 (Nat.le_of_ble_eq_true rfl) dX8_told_64) hS (fun r42 M43 H locs hf hP hS => ?_)
      refine lv_i2l hx hb dX8_told_67 rfl ?_
      refine x_cl0 (rest := []) (x_runSN C hE hP hS ykX11_then lkX8_103 (c_X11_then (OB_bind hf)) (by decide) rfl hl.1 (Nat.le_of_ble_eq_true rfl) dX8_told_68) hS (fun r44 H locs hf hP hS => ?_)
      refine lv_lstore_n (lv' := [(1, .long r44), (0, .ref (xa G 117)), (3, .ref (xa G P3)), (4, .ref (xa G P4)), (5, .int x30)]) hx hb dX8_told_71 rfl hl (by decide) rfl (fun ls hl => ?_)
      refine lv_iinc (v := (x30 + 1)) (lv' := [(5, .int (x30 + 1)), (1, .long r44), (0, .ref (xa G 117)), (3, .ref (xa G P3)), (4, .ref (xa G P4))]) hx hb dX8_told_72 hl (k := 4) rfl rfl (by decide) rfl (fun ls hl => ?_)
      refine lv_goto (tgt := 3) hx hb dX8_told_75 (by decide) ?_
      exact (it_c hf) _ _ _ hP hS (lv_sub hl [2, 1, 3, 4, 0] rfl)
def rm_X9_size : Room := { frames := 0, cells := 0, slots := 0, locals := 0 }
set_option maxRecDepth 100000 in
set_option maxHeartbeats 8000000 in
theorem c_X9_size {l : Launch} {G : GG}  {M : Mem} {h : Int64}  {P9 : Int32 → Prop} (hf : OB (f_X9_size M) P9) : Met1 l yX9_size cX9_size 1 (some .int) rm_X9_size G [.ref (xa G 120)] M h (QI0 G M h P9) := by
  unfold f_X9_size at hf
  refine xm_i0 (by decide) (Nat.le_of_ble_eq_true rfl) ?_
  intro p e s m args below meth c ls Q C hE hret hP hS hl
  have C : CallFix p m c cX9_size 1 s args TB RX9 := C
  have hx := C.1
  have hb := C.2.1
  have hl : lv_has ls 1 [(0, .ref (xa G 120))] := hl
  refine lv_aload_n hx hb dX9_size_0 rfl (lv_at hl 0 rfl) ?_
  refine gfX9_45 C hE hP dX9_size_1 ?_
  exact hret _ _ _ _ _ (OB_some hf) hP hS dX9_size_4
def rm_X9_isFull : Room := { frames := 0, cells := 0, slots := 0, locals := 0 }
set_option maxRecDepth 100000 in
set_option maxHeartbeats 8000000 in
theorem c_X9_isFull {l : Launch} {G : GG}  {M : Mem} {h : Int64}  {P9 : Bool → Prop} (hf : OB (f_X9_isFull M) P9) : Met1 l yX9_isFull cX9_isFull 1 (some .boolean) rm_X9_isFull G [.ref (xa G 120)] M h (QZ0 G M h P9) := by
  unfold f_X9_isFull at hf
  refine xm_z0 (by decide) (Nat.le_of_ble_eq_true rfl) ?_
  intro p e s m args below meth c ls Q C hE hret hP hS hl
  have C : CallFix p m c cX9_isFull 1 s args TB RX9 := C
  have hx := C.1
  have hb := C.2.1
  have hl : lv_has ls 1 [(0, .ref (xa G 120))] := hl
  refine lv_aload_n hx hb dX9_isFull_0 rfl (lv_at hl 0 rfl) ?_
  refine gfX9_45 C hE hP dX9_isFull_1 ?_
  refine lv_bipush (v := 12) hx hb dX9_isFull_4 (by decide) ?_
  refine xj (fun (x1 : Bool) => ∀ (H : Heap) (locs : List Loc) (ls : Array Slot), va_P G.1 vwCl (wl G M h) H → va_S (Aw G) s.heap H locs → lv_has ls 1 [] → W p l e rm_X9_isFull s m args below meth c H locs 0 0 Q (F0 m 14 ls [.int (bI x1)])) hf ?_ (fun hf => ?_)
  · rintro x1 hf H locs ls hP hS hl
    exact hret _ _ _ _ _ (OB_some hf) hP hS dX9_isFull_14
  · skip
    refine lv_icmp_lt (tgt := 13) hx hb dX9_isFull_6 (by decide) (fun hc => ?_) (fun hc => ?_)
    · have hf := (OB_t hf hc)
      refine lv_iconst (v := 0) hx hb dX9_isFull_13 (by decide) ?_
      refine W.eq (g2 := F0 m 14 ls [.int (bI false)]) rfl ?_
      exact (OB_some hf) _ _ _ hP hS (lv_sub hl [] rfl)
    · have hf := (OB_f hf hc)
      refine lv_iconst (v := 1) hx hb dX9_isFull_9 (by decide) ?_
      refine lv_goto (tgt := 14) hx hb dX9_isFull_10 (by decide) ?_
      refine W.eq (g2 := F0 m 14 ls [.int (bI true)]) rfl ?_
      exact (OB_some hf) _ _ _ hP hS (lv_sub hl [] rfl)
def rm_X9_changeSpeed : Room := { frames := 0, cells := 0, slots := 0, locals := 0 }
set_option maxRecDepth 100000 in
set_option maxHeartbeats 8000000 in
theorem c_X9_changeSpeed {l : Launch} {G : GG} {a1 : Int32} {M : Mem} {h : Int64}  {P9 : (Int32 × Mem) → Prop} (hf : OB (f_X9_changeSpeed a1 M) P9) : Met1 l yX9_changeSpeed cX9_changeSpeed 3 (some .int) rm_X9_changeSpeed G [.ref (xa G 120), .int a1] M h (QI1 G h P9) := by
  unfold f_X9_changeSpeed at hf
  refine xm_i1 (by decide) (Nat.le_of_ble_eq_true rfl) ?_
  intro p e s m args below meth c ls Q C hE hret hP hS hl
  have C : CallFix p m c cX9_changeSpeed 3 s args TB RX9 := C
  have hx := C.1
  have hb := C.2.1
  have hl : lv_has ls 3 [(0, .ref (xa G 120)), (1, .int a1)] := hl
  refine lv_aload_n hx hb dX9_changeSpeed_0 rfl (lv_at hl 0 rfl) ?_
  refine gfX9_28 C hE hP dX9_changeSpeed_1 ?_
  refine lv_istore_n (lv' := [(2, .int (M 120 7)), (0, .ref (xa G 120)), (1, .int a1)]) hx hb dX9_changeSpeed_4 rfl hl (by decide) rfl (fun ls hl => ?_)
  refine lv_aload_n hx hb dX9_changeSpeed_5 rfl (lv_at hl 1 rfl) ?_
  refine lv_iload_n hx hb dX9_changeSpeed_6 rfl (lv_at hl 2 rfl) ?_
  refine pfX9_28 C hE hP hS dX9_changeSpeed_7 (fun H locs hP hS => ?_)
  refine lv_iload_n hx hb dX9_changeSpeed_10 rfl (lv_at hl 0 rfl) ?_
  exact hret _ _ _ _ _ _ (OB_some hf) hP hS dX9_changeSpeed_11
def rm_X9_add : Room := { frames := 0, cells := 0, slots := 0, locals := 0 }
set_option maxRecDepth 100000 in
set_option maxHeartbeats 8000000 in
theorem c_X9_add {l : Launch} {G : GG} {a1 : Int32} {a2 : Int32} {a3 : Int32} {a4 : Bool} {a5 : Int32} {M : Mem} {h : Int64}  {P9 : (Int32 × Mem) → Prop} (hf : OB (f_X9_add a1 a2 a3 a4 a5 M) P9) : Met1 l yX9_add cX9_add 6 (some .int) rm_X9_add G [.ref (xa G 120), .int a1, .int a2, .int a3, .int (bI a4), .int a5] M h (QI1 G h P9) := by
  unfold f_X9_add at hf
  refine xm_i1 (by decide) (Nat.le_of_ble_eq_true rfl) ?_
  intro p e s m args below meth c ls Q C hE hret hP hS hl
  have C : CallFix p m c cX9_add 6 s args TB RX9 := C
  have hx := C.1
  have hb := C.2.1
  have hl : lv_has ls 6 [(0, .ref (xa G 120)), (1, .int a1), (2, .int a2), (3, .int a3), (4, .int (bI a4)), (5, .int a5)] := hl
  refine lv_aload_n hx hb dX9_add_0 rfl (lv_at hl 0 rfl) ?_
  refine gfX9_11 C hE hP dX9_add_1 ?_
  refine lv_aload_n hx hb dX9_add_4 rfl (lv_at hl 0 rfl) ?_
  refine gfX9_45 C hE hP dX9_add_5 ?_
  refine lv_iload_n hx hb dX9_add_8 rfl (lv_at hl 1 rfl) ?_
  obtain ⟨g1, hf⟩ := OB_g hf
  refine x_iast C hE hP hS sh121 g1 dX9_add_9 (fun H locs hP hS => ?_)
  refine lv_aload_n hx hb dX9_add_10 rfl (lv_at hl 0 rfl) ?_
  refine gfX9_15 C hE hP dX9_add_11 ?_
  refine lv_aload_n hx hb dX9_add_14 rfl (lv_at hl 0 rfl) ?_
  refine gfX9_45 C hE hP dX9_add_15 ?_
  refine lv_iload_n hx hb dX9_add_18 rfl (lv_at hl 2 rfl) ?_
  obtain ⟨g2, hf⟩ := OB_g hf
  refine x_iast C hE hP hS sh122 g2 dX9_add_19 (fun H locs hP hS => ?_)
  refine lv_aload_n hx hb dX9_add_20 rfl (lv_at hl 0 rfl) ?_
  refine gfX9_18 C hE hP dX9_add_21 ?_
  refine lv_aload_n hx hb dX9_add_24 rfl (lv_at hl 0 rfl) ?_
  refine gfX9_45 C hE hP dX9_add_25 ?_
  refine lv_iload_n hx hb dX9_add_28 rfl (lv_at hl 3 rfl) ?_
  obtain ⟨g3, hf⟩ := OB_g hf
  refine x_iast C hE hP hS sh123 g3 dX9_add_29 (fun H locs hP hS => ?_)
  refine lv_aload_n hx hb dX9_add_30 rfl (lv_at hl 0 rfl) ?_
  refine gfX9_21 C hE hP dX9_add_31 ?_
  refine lv_aload_n hx hb dX9_add_34 rfl (lv_at hl 0 rfl) ?_
  refine gfX9_45 C hE hP dX9_add_35 ?_
  refine lv_iload hx hb dX9_add_38 (lv_at hl 4 rfl) ?_
  obtain ⟨g4, hf⟩ := OB_g hf
  refine x_zast C hE hP hS sh124 (bI_v a4) g4 dX9_add_40 (fun H locs hP hS => ?_)
  refine lv_aload_n hx hb dX9_add_41 rfl (lv_at hl 0 rfl) ?_
  refine gfX9_25 C hE hP dX9_add_42 ?_
  refine lv_aload_n hx hb dX9_add_45 rfl (lv_at hl 0 rfl) ?_
  refine gfX9_45 C hE hP dX9_add_46 ?_
  refine lv_iload hx hb dX9_add_49 (lv_at hl 5 rfl) ?_
  obtain ⟨g5, hf⟩ := OB_g hf
  refine x_iast C hE hP hS sh125 g5 dX9_add_51 (fun H locs hP hS => ?_)
  refine lv_aload_n hx hb dX9_add_52 rfl (lv_at hl 0 rfl) ?_
  refine lv_dup hx hb dX9_add_53 rfl ?_
  refine gfX9_45 C hE hP dX9_add_54 ?_
  refine lv_iconst (v := 1) hx hb dX9_add_57 (by decide) ?_
  refine lv_iadd hx hb dX9_add_58 ?_
  refine pfX9_45 C hE hP hS dX9_add_59 (fun H locs hP hS => ?_)
  refine lv_aload_n hx hb dX9_add_62 rfl (lv_at hl 0 rfl) ?_
  refine gfX9_45 C hE hP dX9_add_63 ?_
  refine lv_iconst (v := 1) hx hb dX9_add_66 (by decide) ?_
  refine lv_isub hx hb dX9_add_67 ?_
  exact hret _ _ _ _ _ _ (OB_some hf) hP hS dX9_add_68
def rm_X9_owe : Room := { frames := 3, cells := 0, slots := 0, locals := 75 }
set_option maxRecDepth 100000 in
set_option maxHeartbeats 8000000 in
theorem c_X9_owe {l : Launch} {G : GG} {a1 : Int32} {M : Mem} {h : Int64}  {P9 : Mem → Prop} (hf : OB (f_X9_owe a1 M) P9) : Met1 l yX9_owe cX9_owe 4 none rm_X9_owe G [.ref (xa G 120), .int a1] M h (QV1 G h P9) := by
  unfold f_X9_owe at hf
  refine xm_v1 (by decide) (Nat.le_of_ble_eq_true rfl) ?_
  intro p e s m args below meth c ls Q C hE hret hP hS hl
  have C : CallFix p m c cX9_owe 4 s args TB RX9 := C
  have hx := C.1
  have hb := C.2.1
  have hl : lv_has ls 4 [(0, .ref (xa G 120)), (1, .int a1)] := hl
  refine lv_iconst (v := 0) hx hb dX9_owe_0 (by decide) ?_
  refine lv_istore_n (lv' := [(2, .int 0), (0, .ref (xa G 120)), (1, .int a1)]) hx hb dX9_owe_1 rfl hl (by decide) rfl (fun ls hl => ?_)
  refine xj (fun (M27 : Mem) => ∀ (H : Heap) (locs : List Loc) (ls : Array Slot), va_P G.1 vwCl (wl G M27 h) H → va_S (Aw G) s.heap H locs → lv_has ls 4 [] → W p l e rm_X9_owe s m args below meth c H locs 0 0 Q (F0 m 105 ls [])) hf ?_ (fun hf => ?_)
  · rintro M27 hf H locs ls hP hS hl
    exact hret _ _ _ _ _ (OB_some hf) hP hS dX9_owe_105
  · refine (it_W (fun (zz : (Int32 × Mem)) => match zz with | (x25, M26) => ∀ (H : Heap) (locs : List Loc) (ls : Array Slot), va_P G.1 vwCl (wl G M26 h) H → va_S (Aw G) s.heap H locs → lv_has ls 4 [(0, .ref (xa G 120)), (1, .int a1), (2, .int x25)] → W p l e rm_X9_owe s m args below meth c H locs 0 0 Q (F0 m 2 ls [])) hf ?_) _ _ _ hP hS (lv_sub hl [1, 2, 0] rfl)
    rintro ⟨x25, M26⟩ hf H locs ls hP hS hl
    unfold f_X9_owe_b2 at hf
    refine lv_iload_n hx hb dX9_owe_2 rfl (lv_at hl 2 rfl) ?_
    refine lv_bipush (v := 16) hx hb dX9_owe_3 (by decide) ?_
    refine lv_icmp_ge (tgt := 105) hx hb dX9_owe_5 (by decide) (fun hc => ?_) (fun hc => ?_)
    · have hf := (OB_t hf hc)
      exact (it_e hf) _ _ _ hP hS (lv_sub hl [] rfl)
    · have hf := (OB_f hf hc)
      refine lv_aload_n hx hb dX9_owe_8 rfl (lv_at hl 0 rfl) ?_
      refine gfX9_41 C hE hP dX9_owe_9 ?_
      refine lv_aload_n hx hb dX9_owe_12 rfl (lv_at hl 0 rfl) ?_
      refine gfX9_15 C hE hP dX9_owe_13 ?_
      refine lv_iload_n hx hb dX9_owe_16 rfl (lv_at hl 1 rfl) ?_
      obtain ⟨g28, hf⟩ := OB_g hf
      refine x_iald C hE hP sh122 g28 dX9_owe_17 ?_
      refine lv_aload_n hx hb dX9_owe_18 rfl (lv_at hl 0 rfl) ?_
      refine gfX9_11 C hE hP dX9_owe_19 ?_
      refine lv_iload_n hx hb dX9_owe_22 rfl (lv_at hl 1 rfl) ?_
      refine x_iald C hE hP sh121 g28 dX9_owe_23 ?_
      refine lv_iconst (v := 0) hx hb dX9_owe_24 (by decide) ?_
      refine lv_iload_n hx hb dX9_owe_25 rfl (lv_at hl 2 rfl) ?_
      refine x_cv1 (rest := []) (x_runV C hE hP hS ykX1_look lkX9_58 sh9 rfl (c_X1_look (OB_bind hf)) (by decide) rfl hl.1 (Nat.le_of_ble_eq_true rfl) dX9_owe_26) hS (fun M29 H locs hf hP hS => ?_)
      refine lv_aload_n hx hb dX9_owe_29 rfl (lv_at hl 0 rfl) ?_
      refine gfX9_41 C hE hP dX9_owe_30 ?_
      refine gfX9_64 C hE hP dX9_owe_33 ?_
      refine xj (fun (x32 : Bool) => ∀ (H : Heap) (locs : List Loc) (ls : Array Slot), va_P G.1 vwCl (wl G M29 h) H → va_S (Aw G) s.heap H locs → lv_has ls 4 [(0, .ref (xa G 120)), (1, .int a1), (2, .int x25)] → W p l e rm_X9_owe s m args below meth c H locs 0 0 Q (F0 m 69 ls [.int (bI x32)])) hf ?_ (fun hf => ?_)
      · rintro x32 hf H locs ls hP hS hl
        refine lv_istore_n (lv' := [(3, .int (bI x32)), (0, .ref (xa G 120)), (1, .int a1), (2, .int x25)]) hx hb dX9_owe_69 rfl hl (by decide) rfl (fun ls hl => ?_)
        refine lv_iload_n hx hb dX9_owe_70 rfl (lv_at hl 0 rfl) ?_
        refine xj (fun (M36 : Mem) => ∀ (H : Heap) (locs : List Loc) (ls : Array Slot), va_P G.1 vwCl (wl G M36 h) H → va_S (Aw G) s.heap H locs → lv_has ls 4 [(0, .ref (xa G 120)), (1, .int a1), (2, .int x25)] → W p l e rm_X9_owe s m args below meth c H locs 0 0 Q (F0 m 99 ls [])) hf ?_ (fun hf => ?_)
        · rintro M36 hf H locs ls hP hS hl
          refine lv_iinc (v := (x25 + 1)) (lv' := [(2, .int (x25 + 1)), (0, .ref (xa G 120)), (1, .int a1)]) hx hb dX9_owe_99 hl (k := 2) rfl rfl (by decide) rfl (fun ls hl => ?_)
          refine lv_goto (tgt := 2) hx hb dX9_owe_102 (by decide) ?_
          exact (it_c hf) _ _ _ hP hS (lv_sub hl [1, 2, 0] rfl)
        · skip
          refine lv_if_ne (tgt := 99) hx hb dX9_owe_71 (by decide) (fun hc => ?_) (fun hc => ?_)
          · have hf := (OB_t hf (bI_t hc))
            exact (OB_some hf) _ _ _ hP hS (lv_sub hl [1, 2, 3] rfl)
          · have hf := (OB_f hf (bI_f hc))
            refine lv_aload_n hx hb dX9_owe_74 rfl (lv_at hl 1 rfl) ?_
            refine gfX9_32 C hE hP dX9_owe_75 ?_
            refine lv_aload_n hx hb dX9_owe_78 rfl (lv_at hl 1 rfl) ?_
            refine gfX9_18 C hE hP dX9_owe_79 ?_
            refine lv_iload_n hx hb dX9_owe_82 rfl (lv_at hl 2 rfl) ?_
            refine x_iald C hE hP sh123 g28 dX9_owe_83 ?_
            refine lv_bipush (v := 16) hx hb dX9_owe_84 (by decide) ?_
            refine lv_imul hx hb dX9_owe_86 ?_
            refine lv_iload_n hx hb dX9_owe_87 rfl (lv_at hl 3 rfl) ?_
            refine lv_iadd hx hb dX9_owe_88 ?_
            refine lv_dup2_11 hx hb dX9_owe_89 rfl rfl ?_
            obtain ⟨g37, hf⟩ := OB_g hf
            refine x_iald C hE hP sh126 g37 dX9_owe_90 ?_
            refine lv_aload_n hx hb dX9_owe_91 rfl (lv_at hl 1 rfl) ?_
            refine gfX9_25 C hE hP dX9_owe_92 ?_
            refine lv_iload_n hx hb dX9_owe_95 rfl (lv_at hl 2 rfl) ?_
            refine x_iald C hE hP sh125 g28 dX9_owe_96 ?_
            refine lv_iadd hx hb dX9_owe_97 ?_
            refine x_iast C hE hP hS sh126 g37 dX9_owe_98 (fun H locs hP hS => ?_)
            exact (OB_some hf) _ _ _ hP hS (lv_sub hl [1, 2, 3] rfl)
      · skip
        refine lv_if_ne (tgt := 68) hx hb dX9_owe_36 (by decide) (fun hc => ?_) (fun hc => ?_)
        · have hf := (OB_f hf hc)
          refine lv_iconst (v := 0) hx hb dX9_owe_68 (by decide) ?_
          refine W.eq (g2 := F0 m 69 ls [.int (bI false)]) rfl ?_
          exact (OB_some hf) _ _ _ hP hS (lv_sub hl [0, 1, 2] rfl)
        · have hf := (OB_t hf hc)
          refine lv_aload_n hx hb dX9_owe_39 rfl (lv_at hl 0 rfl) ?_
          refine gfX9_41 C hE hP dX9_owe_40 ?_
          refine gfX9_67 C hE hP dX9_owe_43 ?_
          refine lv_iconst (v := 1) hx hb dX9_owe_46 (by decide) ?_
          refine xj (fun (x33 : Bool) => ∀ (H : Heap) (locs : List Loc) (ls : Array Slot), va_P G.1 vwCl (wl G M29 h) H → va_S (Aw G) s.heap H locs → lv_has ls 4 [(0, .ref (xa G 120)), (1, .int a1), (2, .int x25)] → W p l e rm_X9_owe s m args below meth c H locs 0 0 Q (F0 m 55 ls [.int (bI x33)])) hf ?_ (fun hf => ?_)
          · rintro x33 hf H locs ls hP hS hl
            refine lv_aload_n hx hb dX9_owe_55 rfl (lv_at hl 0 rfl) ?_
            refine gfX9_21 C hE hP dX9_owe_56 ?_
            refine lv_iload_n hx hb dX9_owe_59 rfl (lv_at hl 1 rfl) ?_
            refine x_zald C hE hP sh124 g28 dX9_owe_60 ?_
            refine lv_icmp_ne (tgt := 68) hx hb dX9_owe_61 (by decide) (fun hc => ?_) (fun hc => ?_)
            · have hf := (OB_f hf hc)
              refine lv_iconst (v := 0) hx hb dX9_owe_68 (by decide) ?_
              refine W.eq (g2 := F0 m 69 ls [.int (bI false)]) rfl ?_
              exact (OB_some hf) _ _ _ hP hS (lv_sub hl [0, 1, 2] rfl)
            · have hf := (OB_t hf hc)
              refine lv_iconst (v := 1) hx hb dX9_owe_64 (by decide) ?_
              refine lv_goto (tgt := 69) hx hb dX9_owe_65 (by decide) ?_
              refine W.eq (g2 := F0 m 69 ls [.int (bI true)]) rfl ?_
              exact (OB_some hf) _ _ _ hP hS (lv_sub hl [0, 1, 2] rfl)
          · skip
            refine lv_icmp_lt (tgt := 54) hx hb dX9_owe_47 (by decide) (fun hc => ?_) (fun hc => ?_)
            · have hf := (OB_t hf hc)
              refine lv_iconst (v := 0) hx hb dX9_owe_54 (by decide) ?_
              refine W.eq (g2 := F0 m 55 ls [.int (bI false)]) rfl ?_
              exact (OB_some hf) _ _ _ hP hS (lv_sub hl [0, 1, 2] rfl)
            · have hf := (OB_f hf hc)
              refine lv_iconst (v := 1) hx hb dX9_owe_50 (by decide) ?_
              refine lv_goto (tgt := 55) hx hb dX9_owe_51 (by decide) ?_
              refine W.eq (g2 := F0 m 55 ls [.int (bI true)]) rfl ?_
              exact (OB_some hf) _ _ _ hP hS (lv_sub hl [0, 1, 2] rfl)
def rm_X9_oweAll : Room := { frames := 4, cells := 0, slots := 0, locals := 98 }
set_option maxRecDepth 100000 in
set_option maxHeartbeats 8000000 in
theorem c_X9_oweAll {l : Launch} {G : GG} {a1 : Int32} {M : Mem} {h : Int64}  {P9 : Mem → Prop} (hf : OB (f_X9_oweAll a1 M) P9) : Met1 l yX9_oweAll cX9_oweAll 3 none rm_X9_oweAll G [.ref (xa G 120), .int a1] M h (QV1 G h P9) := by
  unfold f_X9_oweAll at hf
  refine xm_v1 (by decide) (Nat.le_of_ble_eq_true rfl) ?_
  intro p e s m args below meth c ls Q C hE hret hP hS hl
  have C : CallFix p m c cX9_oweAll 3 s args TB RX9 := C
  have hx := C.1
  have hb := C.2.1
  have hl : lv_has ls 3 [(0, .ref (xa G 120)), (1, .int a1)] := hl
  refine lv_aload_n hx hb dX9_oweAll_0 rfl (lv_at hl 0 rfl) ?_
  refine gfX9_32 C hE hP dX9_oweAll_1 ?_
  refine lv_iconst (v := 0) hx hb dX9_oweAll_4 (by decide) ?_
  refine x_fill C hE hP hS hl.1 lkX9_48 sh126 (by decide) (by decide) (Nat.le_of_ble_eq_true rfl) dX9_oweAll_5 (fun H locs hP hS => ?_)
  refine lv_iconst (v := 0) hx hb dX9_oweAll_8 (by decide) ?_
  refine lv_istore_n (lv' := [(2, .int 0), (0, .ref (xa G 120)), (1, .int a1)]) hx hb dX9_oweAll_9 rfl hl (by decide) rfl (fun ls hl => ?_)
  refine xj (fun (M17 : Mem) => ∀ (H : Heap) (locs : List Loc) (ls : Array Slot), va_P G.1 vwCl (wl G M17 h) H → va_S (Aw G) s.heap H locs → lv_has ls 3 [] → W p l e rm_X9_oweAll s m args below meth c H locs 0 0 Q (F0 m 39 ls [])) hf ?_ (fun hf => ?_)
  · rintro M17 hf H locs ls hP hS hl
    exact hret _ _ _ _ _ (OB_some hf) hP hS dX9_oweAll_39
  · refine (it_W (fun (zz : (Int32 × Mem)) => match zz with | (x15, M16) => ∀ (H : Heap) (locs : List Loc) (ls : Array Slot), va_P G.1 vwCl (wl G M16 h) H → va_S (Aw G) s.heap H locs → lv_has ls 3 [(0, .ref (xa G 120)), (1, .int a1), (2, .int x15)] → W p l e rm_X9_oweAll s m args below meth c H locs 0 0 Q (F0 m 10 ls [])) hf ?_) _ _ _ hP hS (lv_sub hl [1, 2, 0] rfl)
    rintro ⟨x15, M16⟩ hf H locs ls hP hS hl
    unfold f_X9_oweAll_b10 at hf
    refine lv_iload_n hx hb dX9_oweAll_10 rfl (lv_at hl 2 rfl) ?_
    refine lv_aload_n hx hb dX9_oweAll_11 rfl (lv_at hl 0 rfl) ?_
    refine gfX9_45 C hE hP dX9_oweAll_12 ?_
    refine lv_icmp_ge (tgt := 39) hx hb dX9_oweAll_15 (by decide) (fun hc => ?_) (fun hc => ?_)
    · have hf := (OB_t hf hc)
      exact (it_e hf) _ _ _ hP hS (lv_sub hl [] rfl)
    · have hf := (OB_f hf hc)
      refine lv_aload_n hx hb dX9_oweAll_18 rfl (lv_at hl 0 rfl) ?_
      refine gfX9_11 C hE hP dX9_oweAll_19 ?_
      refine lv_iload_n hx hb dX9_oweAll_22 rfl (lv_at hl 2 rfl) ?_
      obtain ⟨g18, hf⟩ := OB_g hf
      refine x_iald C hE hP sh121 g18 dX9_oweAll_23 ?_
      refine lv_iload_n hx hb dX9_oweAll_24 rfl (lv_at hl 1 rfl) ?_
      refine xj (fun (M21 : Mem) => ∀ (H : Heap) (locs : List Loc) (ls : Array Slot), va_P G.1 vwCl (wl G M21 h) H → va_S (Aw G) s.heap H locs → lv_has ls 3 [(0, .ref (xa G 120)), (1, .int a1), (2, .int x15)] → W p l e rm_X9_oweAll s m args below meth c H locs 0 0 Q (F0 m 33 ls [])) hf ?_ (fun hf => ?_)
      · rintro M21 hf H locs ls hP hS hl
        refine lv_iinc (v := (x15 + 1)) (lv' := [(2, .int (x15 + 1)), (0, .ref (xa G 120)), (1, .int a1)]) hx hb dX9_oweAll_33 hl (k := 2) rfl rfl (by decide) rfl (fun ls hl => ?_)
        refine lv_goto (tgt := 10) hx hb dX9_oweAll_36 (by decide) ?_
        exact (it_c hf) _ _ _ hP hS (lv_sub hl [1, 2, 0] rfl)
      · skip
        refine lv_icmp_ne (tgt := 33) hx hb dX9_oweAll_25 (by decide) (fun hc => ?_) (fun hc => ?_)
        · have hf := (OB_f hf hc)
          exact (OB_some hf) _ _ _ hP hS (lv_sub hl [0, 1, 2] rfl)
        · have hf := (OB_t hf hc)
          refine lv_aload_n hx hb dX9_oweAll_28 rfl (lv_at hl 0 rfl) ?_
          refine lv_iload_n hx hb dX9_oweAll_29 rfl (lv_at hl 2 rfl) ?_
          refine x_cv1 (rest := []) (x_runV C hE hP hS ykX9_owe lkX9_54 sh120 rfl (c_X9_owe (OB_bind hf)) (by decide) rfl hl.1 (Nat.le_of_ble_eq_true rfl) dX9_oweAll_30) hS (fun M22 H locs hf hP hS => ?_)
          exact (OB_some hf) _ _ _ hP hS (lv_sub hl [0, 1, 2] rfl)
def rm_X9_priceVia : Room := { frames := 2, cells := 0, slots := 0, locals := 43 }
set_option maxRecDepth 100000 in
set_option maxHeartbeats 8000000 in
theorem c_X9_priceVia {l : Launch} {G : GG} {a1 : Int32} {a2 : Int32} {a3 : Int32} {M : Mem} {h : Int64}  {P9 : Int32 → Prop} (hf : OB (f_X9_priceVia a1 a2 a3 M) P9) : Met1 l yX9_priceVia cX9_priceVia 4 (some .int) rm_X9_priceVia G [.ref (xa G 120), .int a1, .int a2, .int a3] M h (QI0 G M h P9) := by
  unfold f_X9_priceVia at hf
  refine xm_i0 (by decide) (Nat.le_of_ble_eq_true rfl) ?_
  intro p e s m args below meth c ls Q C hE hret hP hS hl
  have C : CallFix p m c cX9_priceVia 4 s args TB RX9 := C
  have hx := C.1
  have hb := C.2.1
  have hl : lv_has ls 4 [(0, .ref (xa G 120)), (1, .int a1), (2, .int a2), (3, .int a3)] := hl
  refine lv_iload_n hx hb dX9_priceVia_0 rfl (lv_at hl 2 rfl) ?_
  refine lv_iload_n hx hb dX9_priceVia_1 rfl (lv_at hl 3 rfl) ?_
  refine x_ci0 (rest := []) (x_runSN C hE hP hS ykX11_ringDistance lkX9_81 (c_X11_ringDistance (OB_bind hf)) (by decide) rfl hl.1 (Nat.le_of_ble_eq_true rfl) dX9_priceVia_2) hS (fun r1 H locs hf hP hS => ?_)
  refine lv_aload_n hx hb dX9_priceVia_5 rfl (lv_at hl 0 rfl) ?_
  refine gfX9_35 C hE hP dX9_priceVia_6 ?_
  refine lv_iload_n hx hb dX9_priceVia_9 rfl (lv_at hl 1 rfl) ?_
  refine lv_iconst (v := 1) hx hb dX9_priceVia_10 (by decide) ?_
  refine lv_iadd hx hb dX9_priceVia_11 ?_
  refine lv_bipush (v := 16) hx hb dX9_priceVia_12 (by decide) ?_
  refine lv_imul hx hb dX9_priceVia_14 ?_
  refine lv_iload_n hx hb dX9_priceVia_15 rfl (lv_at hl 3 rfl) ?_
  refine lv_iadd hx hb dX9_priceVia_16 ?_
  obtain ⟨g2, hf⟩ := OB_g hf
  refine x_iald C hE hP sh127 g2 dX9_priceVia_17 ?_
  refine lv_iadd hx hb dX9_priceVia_18 ?_
  exact hret _ _ _ _ _ (OB_some hf) hP hS dX9_priceVia_19
def rm_X9_bestNext : Room := { frames := 3, cells := 0, slots := 0, locals := 66 }
set_option maxRecDepth 100000 in
set_option maxHeartbeats 8000000 in
theorem c_X9_bestNext {l : Launch} {G : GG} {a1 : Int32} {a2 : Int32} {M : Mem} {h : Int64}  {P9 : Int32 → Prop} (hf : OB (f_X9_bestNext a1 a2 M) P9) : Met1 l yX9_bestNext cX9_bestNext 8 (some .int) rm_X9_bestNext G [.ref (xa G 120), .int a1, .int a2] M h (QI0 G M h P9) := by
  unfold f_X9_bestNext at hf
  refine xm_i0 (by decide) (Nat.le_of_ble_eq_true rfl) ?_
  intro p e s m args below meth c ls Q C hE hret hP hS hl
  have C : CallFix p m c cX9_bestNext 8 s args TB RX9 := C
  have hx := C.1
  have hb := C.2.1
  have hl : lv_has ls 8 [(0, .ref (xa G 120)), (1, .int a1), (2, .int a2)] := hl
  refine lv_iload_n hx hb dX9_bestNext_0 rfl (lv_at hl 2 rfl) ?_
  refine lv_istore_n (lv' := [(3, .int a2), (0, .ref (xa G 120)), (1, .int a1), (2, .int a2)]) hx hb dX9_bestNext_1 rfl hl (by decide) rfl (fun ls hl => ?_)
  refine lv_aload_n hx hb dX9_bestNext_2 rfl (lv_at hl 1 rfl) ?_
  refine lv_iload_n hx hb dX9_bestNext_3 rfl (lv_at hl 2 rfl) ?_
  refine lv_iload_n hx hb dX9_bestNext_4 rfl (lv_at hl 3 rfl) ?_
  refine lv_iload_n hx hb dX9_bestNext_5 rfl (lv_at hl 3 rfl) ?_
  refine x_ci0 (rest := []) (x_runV C hE hP hS ykX9_priceVia lkX9_77 sh120 rfl (c_X9_priceVia (OB_bind hf)) (by decide) rfl hl.1 (Nat.le_of_ble_eq_true rfl) dX9_bestNext_6) hS (fun r1 H locs hf hP hS => ?_)
  refine lv_istore (lv' := [(4, .int r1), (3, .int a2), (0, .ref (xa G 120)), (1, .int a1), (2, .int a2)]) hx hb dX9_bestNext_9 hl (by decide) rfl (fun ls hl => ?_)
  refine lv_iconst (v := 0) hx hb dX9_bestNext_11 (by decide) ?_
  refine lv_istore (lv' := [(5, .int 0), (4, .int r1), (3, .int a2), (0, .ref (xa G 120)), (1, .int a1), (2, .int a2)]) hx hb dX9_bestNext_12 hl (by decide) rfl (fun ls hl => ?_)
  refine xj (fun (x25 : Int32) => ∀ (H : Heap) (locs : List Loc) (ls : Array Slot), va_P G.1 vwCl (wl G M h) H → va_S (Aw G) s.heap H locs → lv_has ls 8 [(3, .int x25)] → W p l e rm_X9_bestNext s m args below meth c H locs 0 0 Q (F0 m 89 ls [])) hf ?_ (fun hf => ?_)
  · rintro x25 hf H locs ls hP hS hl
    refine lv_iload_n hx hb dX9_bestNext_89 rfl (lv_at hl 0 rfl) ?_
    exact hret _ _ _ _ _ (OB_some hf) hP hS dX9_bestNext_90
  · refine (it_W (fun (zz : (Int32 × Int32 × Int32)) => match zz with | (x22, x23, x24) => ∀ (H : Heap) (locs : List Loc) (ls : Array Slot), va_P G.1 vwCl (wl G M h) H → va_S (Aw G) s.heap H locs → lv_has ls 8 [(0, .ref (xa G 120)), (1, .int a1), (2, .int a2), (3, .int x22), (4, .int x23), (5, .int x24)] → W p l e rm_X9_bestNext s m args below meth c H locs 0 0 Q (F0 m 14 ls [])) hf ?_) _ _ _ hP hS (lv_sub hl [3, 4, 5, 2, 1, 0] rfl)
    rintro ⟨x22, x23, x24⟩ hf H locs ls hP hS hl
    unfold f_X9_bestNext_b14 at hf
    refine lv_iload hx hb dX9_bestNext_14 (lv_at hl 5 rfl) ?_
    refine lv_bipush (v := 16) hx hb dX9_bestNext_16 (by decide) ?_
    refine lv_icmp_ge (tgt := 89) hx hb dX9_bestNext_18 (by decide) (fun hc => ?_) (fun hc => ?_)
    · have hf := (OB_t hf hc)
      exact (it_e hf) _ _ _ hP hS (lv_sub hl [3] rfl)
    · have hf := (OB_f hf hc)
      refine lv_aload_n hx hb dX9_bestNext_21 rfl (lv_at hl 0 rfl) ?_
      refine lv_iload_n hx hb dX9_bestNext_22 rfl (lv_at hl 1 rfl) ?_
      refine lv_iload_n hx hb dX9_bestNext_23 rfl (lv_at hl 2 rfl) ?_
      refine lv_iload hx hb dX9_bestNext_24 (lv_at hl 5 rfl) ?_
      refine x_ci0 (rest := []) (x_runV C hE hP hS ykX9_priceVia lkX9_77 sh120 rfl (c_X9_priceVia (OB_bind hf)) (by decide) rfl hl.1 (Nat.le_of_ble_eq_true rfl) dX9_bestNext_26) hS (fun r26 H locs hf hP hS => ?_)
      refine lv_istore (lv' := [(6, .int r26), (0, .ref (xa G 120)), (1, .int a1), (2, .int a2), (3, .int x22), (4, .int x23), (5, .int x24)]) hx hb dX9_bestNext_29 hl (by decide) rfl (fun ls hl => ?_)
      refine lv_iload hx hb dX9_bestNext_31 (lv_at hl 0 rfl) ?_
      refine lv_iload hx hb dX9_bestNext_33 (lv_at hl 5 rfl) ?_
      refine xj (fun (x27 : Bool) => ∀ (H : Heap) (locs : List Loc) (ls : Array Slot), va_P G.1 vwCl (wl G M h) H → va_S (Aw G) s.heap H locs → lv_has ls 8 [(0, .ref (xa G 120)), (1, .int a1), (2, .int a2), (3, .int x22), (4, .int x23), (5, .int x24), (6, .int r26)] → W p l e rm_X9_bestNext s m args below meth c H locs 0 0 Q (F0 m 56 ls [.int (bI x27)])) hf ?_ (fun hf => ?_)
      · rintro x27 hf H locs ls hP hS hl
        refine lv_istore (lv' := [(7, .int (bI x27)), (0, .ref (xa G 120)), (1, .int a1), (2, .int a2), (3, .int x22), (4, .int x23), (5, .int x24), (6, .int r26)]) hx hb dX9_bestNext_56 hl (by decide) rfl (fun ls hl => ?_)
        refine lv_iload hx hb dX9_bestNext_58 (lv_at hl 0 rfl) ?_
        refine xj (fun (zz : (Int32 × Int32)) => match zz with | (x30, x31) => ∀ (H : Heap) (locs : List Loc) (ls : Array Slot), va_P G.1 vwCl (wl G M h) H → va_S (Aw G) s.heap H locs → lv_has ls 8 [(0, .ref (xa G 120)), (1, .int a1), (2, .int a2), (3, .int x30), (4, .int x31), (5, .int x24)] → W p l e rm_X9_bestNext s m args below meth c H locs 0 0 Q (F0 m 83 ls [])) hf ?_ (fun hf => ?_)
        · rintro ⟨x30, x31⟩ hf H locs ls hP hS hl
          refine lv_iinc (v := (x24 + 1)) (lv' := [(5, .int (x24 + 1)), (0, .ref (xa G 120)), (1, .int a1), (2, .int a2), (3, .int x30), (4, .int x31)]) hx hb dX9_bestNext_83 hl (k := 5) rfl rfl (by decide) rfl (fun ls hl => ?_)
          refine lv_goto (tgt := 14) hx hb dX9_bestNext_86 (by decide) ?_
          exact (it_c hf) _ _ _ hP hS (lv_sub hl [1, 2, 3, 4, 5, 0] rfl)
        · skip
          refine lv_if_eq (tgt := 83) hx hb dX9_bestNext_60 (by decide) (fun hc => ?_) (fun hc => ?_)
          · have hf := (OB_f hf (bI_f hc))
            exact (OB_some hf) _ _ _ hP hS (lv_sub hl [1, 2, 3, 4, 5, 6] rfl)
          · have hf := (OB_t hf (bI_t hc))
            refine lv_iload_n hx hb dX9_bestNext_63 rfl (lv_at hl 3 rfl) ?_
            refine lv_iload hx hb dX9_bestNext_64 (lv_at hl 6 rfl) ?_
            refine x_ci0 (rest := []) (x_runSN C hE hP hS ykX11_ringDistance lkX9_81 (c_X11_ringDistance (OB_bind hf)) (by decide) rfl hl.1 (Nat.le_of_ble_eq_true rfl) dX9_bestNext_66) hS (fun r32 H locs hf hP hS => ?_)
            refine lv_aload_n hx hb dX9_bestNext_69 rfl (lv_at hl 1 rfl) ?_
            refine gfX9_28 C hE hP dX9_bestNext_70 ?_
            refine lv_icmp_gt (tgt := 83) hx hb dX9_bestNext_73 (by decide) (fun hc => ?_) (fun hc => ?_)
            · have hf := (OB_t hf hc)
              exact (OB_some hf) _ _ _ hP hS (lv_sub hl [1, 2, 3, 4, 5, 6] rfl)
            · have hf := (OB_f hf hc)
              refine lv_iload hx hb dX9_bestNext_76 (lv_at hl 6 rfl) ?_
              refine lv_istore_n (lv' := [(3, .int x24), (7, .int (bI x27)), (0, .ref (xa G 120)), (1, .int a1), (2, .int a2), (4, .int x23), (5, .int x24), (6, .int r26)]) hx hb dX9_bestNext_78 rfl hl (by decide) rfl (fun ls hl => ?_)
              refine lv_iload hx hb dX9_bestNext_79 (lv_at hl 7 rfl) ?_
              refine lv_istore (lv' := [(4, .int r26), (3, .int x24), (7, .int (bI x27)), (0, .ref (xa G 120)), (1, .int a1), (2, .int a2), (5, .int x24), (6, .int r26)]) hx hb dX9_bestNext_81 hl (by decide) rfl (fun ls hl => ?_)
              exact (OB_some hf) _ _ _ hP hS (lv_sub hl [3, 4, 5, 1, 0, 6] rfl)
      · skip
        refine lv_icmp_lt (tgt := 51) hx hb dX9_bestNext_35 (by decide) (fun hc => ?_) (fun hc => ?_)
        · have hf := (OB_t hf hc)
          refine lv_iconst (v := 1) hx hb dX9_bestNext_51 (by decide) ?_
          refine lv_goto (tgt := 56) hx hb dX9_bestNext_52 (by decide) ?_
          refine W.eq (g2 := F0 m 56 ls [.int (bI true)]) rfl ?_
          exact (OB_some hf) _ _ _ hP hS (lv_sub hl [1, 2, 3, 4, 5, 6, 0] rfl)
        · have hf := (OB_f hf hc)
          refine lv_iload hx hb dX9_bestNext_38 (lv_at hl 0 rfl) ?_
          refine lv_iload hx hb dX9_bestNext_40 (lv_at hl 5 rfl) ?_
          refine lv_icmp_ne (tgt := 55) hx hb dX9_bestNext_42 (by decide) (fun hc => ?_) (fun hc => ?_)
          · have hf := (OB_f hf hc)
            refine lv_iconst (v := 0) hx hb dX9_bestNext_55 (by decide) ?_
            refine W.eq (g2 := F0 m 56 ls [.int (bI false)]) rfl ?_
            exact (OB_some hf) _ _ _ hP hS (lv_sub hl [1, 2, 3, 4, 5, 6, 0] rfl)
          · have hf := (OB_t hf hc)
            refine lv_iload hx hb dX9_bestNext_45 (lv_at hl 6 rfl) ?_
            refine lv_iload_n hx hb dX9_bestNext_47 rfl (lv_at hl 4 rfl) ?_
            refine lv_icmp_ge (tgt := 55) hx hb dX9_bestNext_48 (by decide) (fun hc => ?_) (fun hc => ?_)
            · have hf := (OB_t hf hc)
              refine lv_iconst (v := 0) hx hb dX9_bestNext_55 (by decide) ?_
              refine W.eq (g2 := F0 m 56 ls [.int (bI false)]) rfl ?_
              exact (OB_some hf) _ _ _ hP hS (lv_sub hl [1, 2, 3, 4, 5, 6, 0] rfl)
            · have hf := (OB_f hf hc)
              refine lv_iconst (v := 1) hx hb dX9_bestNext_51 (by decide) ?_
              refine lv_goto (tgt := 56) hx hb dX9_bestNext_52 (by decide) ?_
              refine W.eq (g2 := F0 m 56 ls [.int (bI true)]) rfl ?_
              exact (OB_some hf) _ _ _ hP hS (lv_sub hl [1, 2, 3, 4, 5, 6, 0] rfl)
def rm_X9_tell : Room := { frames := 5, cells := 0, slots := 0, locals := 120 }
set_option maxRecDepth 100000 in
set_option maxHeartbeats 8000000 in
theorem c_X9_tell {l : Launch} {G : GG} {a1 : Int32} {M : Mem} {h : Int64}  {P9 : Mem → Prop} (hf : OB (f_X9_tell a1 M) P9) : Met1 l yX9_tell cX9_tell 5 none rm_X9_tell G [.ref (xa G 120), .int a1] M h (QV1 G h P9) := by
  unfold f_X9_tell at hf
  refine xm_v1 (by decide) (Nat.le_of_ble_eq_true rfl) ?_
  intro p e s m args below meth c ls Q C hE hret hP hS hl
  have C : CallFix p m c cX9_tell 5 s args TB RX9 := C
  have hx := C.1
  have hb := C.2.1
  have hl : lv_has ls 5 [(0, .ref (xa G 120)), (1, .int a1)] := hl
  refine lv_aload_n hx hb dX9_tell_0 rfl (lv_at hl 0 rfl) ?_
  refine lv_iload_n hx hb dX9_tell_1 rfl (lv_at hl 1 rfl) ?_
  refine x_cv1 (rest := []) (x_runV C hE hP hS ykX9_oweAll lkX9_70 sh120 rfl (c_X9_oweAll (OB_bind hf)) (by decide) rfl hl.1 (Nat.le_of_ble_eq_true rfl) dX9_tell_2) hS (fun M1 H locs hf hP hS => ?_)
  refine lv_bipush (v := 9) hx hb dX9_tell_5 (by decide) ?_
  refine lv_istore_n (lv' := [(2, .int 9), (0, .ref (xa G 120)), (1, .int a1)]) hx hb dX9_tell_7 rfl hl (by decide) rfl (fun ls hl => ?_)
  refine xj (fun (M41 : Mem) => ∀ (H : Heap) (locs : List Loc) (ls : Array Slot), va_P G.1 vwCl (wl G M41 h) H → va_S (Aw G) s.heap H locs → lv_has ls 5 [(0, .ref (xa G 120))] → W p l e rm_X9_tell s m args below meth c H locs 0 0 Q (F0 m 81 ls [])) hf ?_ (fun hf => ?_)
  · rintro M41 hf H locs ls hP hS hl
    refine lv_aload_n hx hb dX9_tell_81 rfl (lv_at hl 0 rfl) ?_
    refine gfX9_38 C hE hP dX9_tell_82 ?_
    refine lv_iconst (v := 0) hx hb dX9_tell_85 (by decide) ?_
    refine lv_iconst (v := 0) hx hb dX9_tell_86 (by decide) ?_
    refine x_iast C hE hP hS sh128 (by decide) dX9_tell_87 (fun H locs hP hS => ?_)
    refine lv_iconst (v := 1) hx hb dX9_tell_88 (by decide) ?_
    refine lv_istore_n (lv' := [(2, .int 1), (0, .ref (xa G 120))]) hx hb dX9_tell_89 rfl hl (by decide) rfl (fun ls hl => ?_)
    refine xj (fun (M89 : Mem) => ∀ (H : Heap) (locs : List Loc) (ls : Array Slot), va_P G.1 vwCl (wl G M89 h) H → va_S (Aw G) s.heap H locs → lv_has ls 5 [] → W p l e rm_X9_tell s m args below meth c H locs 0 0 Q (F0 m 123 ls [])) hf ?_ (fun hf => ?_)
    · rintro M89 hf H locs ls hP hS hl
      exact hret _ _ _ _ _ (OB_some hf) hP hS dX9_tell_123
    · refine (it_W (fun (zz : (Int32 × Mem)) => match zz with | (x87, M88) => ∀ (H : Heap) (locs : List Loc) (ls : Array Slot), va_P G.1 vwCl (wl G M88 h) H → va_S (Aw G) s.heap H locs → lv_has ls 5 [(0, .ref (xa G 120)), (2, .int x87)] → W p l e rm_X9_tell s m args below meth c H locs 0 0 Q (F0 m 90 ls [])) hf ?_) _ _ _ hP hS (lv_sub hl [1, 0] rfl)
      rintro ⟨x87, M88⟩ hf H locs ls hP hS hl
      unfold f_X9_tell_b90 at hf
      refine lv_iload_n hx hb dX9_tell_90 rfl (lv_at hl 1 rfl) ?_
      refine lv_bipush (v := 10) hx hb dX9_tell_91 (by decide) ?_
      refine lv_icmp_ge (tgt := 123) hx hb dX9_tell_93 (by decide) (fun hc => ?_) (fun hc => ?_)
      · have hf := (OB_t hf hc)
        exact (it_e hf) _ _ _ hP hS (lv_sub hl [] rfl)
      · have hf := (OB_f hf hc)
        refine lv_aload_n hx hb dX9_tell_96 rfl (lv_at hl 0 rfl) ?_
        refine gfX9_38 C hE hP dX9_tell_97 ?_
        refine lv_iload_n hx hb dX9_tell_100 rfl (lv_at hl 1 rfl) ?_
        refine lv_aload_n hx hb dX9_tell_101 rfl (lv_at hl 0 rfl) ?_
        refine lv_iload_n hx hb dX9_tell_102 rfl (lv_at hl 1 rfl) ?_
        refine lv_iconst (v := 1) hx hb dX9_tell_103 (by decide) ?_
        refine lv_isub hx hb dX9_tell_104 ?_
        refine lv_aload_n hx hb dX9_tell_105 rfl (lv_at hl 0 rfl) ?_
        refine gfX9_38 C hE hP dX9_tell_106 ?_
        refine lv_iload_n hx hb dX9_tell_109 rfl (lv_at hl 1 rfl) ?_
        refine lv_iconst (v := 1) hx hb dX9_tell_110 (by decide) ?_
        refine lv_isub hx hb dX9_tell_111 ?_
        obtain ⟨g90, hf⟩ := OB_g hf
        refine x_iald C hE hP sh128 g90 dX9_tell_112 ?_
        refine x_ci0 (rest := [.int x87, .ref (xa G 128)]) (x_runV C hE hP hS ykX9_bestNext lkX9_73 sh120 rfl (c_X9_bestNext (OB_bind hf)) (by decide) rfl hl.1 (Nat.le_of_ble_eq_true rfl) dX9_tell_113) hS (fun r91 H locs hf hP hS => ?_)
        obtain ⟨g92, hf⟩ := OB_g hf
        refine x_iast C hE hP hS sh128 g92 dX9_tell_116 (fun H locs hP hS => ?_)
        refine lv_iinc (v := (x87 + 1)) (lv' := [(2, .int (x87 + 1)), (0, .ref (xa G 120))]) hx hb dX9_tell_117 hl (k := 1) rfl rfl (by decide) rfl (fun ls hl => ?_)
        refine lv_goto (tgt := 90) hx hb dX9_tell_120 (by decide) ?_
        exact (it_c hf) _ _ _ hP hS (lv_sub hl [1, 0] rfl)
  · refine (it_W (fun (zz : (Int32 × Mem)) => match zz with | (x39, M40) => ∀ (H : Heap) (locs : List Loc) (ls : Array Slot), va_P G.1 vwCl (wl G M40 h) H → va_S (Aw G) s.heap H locs → lv_has ls 5 [(0, .ref (xa G 120)), (2, .int x39)] → W p l e rm_X9_tell s m args below meth c H locs 0 0 Q (F0 m 8 ls [])) hf ?_) _ _ _ hP hS (lv_sub hl [1, 0] rfl)
    rintro ⟨x39, M40⟩ hf H locs ls hP hS hl
    unfold f_X9_tell_b8 at hf
    refine lv_iload_n hx hb dX9_tell_8 rfl (lv_at hl 1 rfl) ?_
    refine lv_if_lt (tgt := 81) hx hb dX9_tell_9 (by decide) (fun hc => ?_) (fun hc => ?_)
    · have hf := (OB_t hf hc)
      exact (it_e hf) _ _ _ hP hS (lv_sub hl [0] rfl)
    · have hf := (OB_f hf hc)
      refine lv_iconst (v := 0) hx hb dX9_tell_12 (by decide) ?_
      refine lv_istore_n (lv' := [(3, .int 0), (0, .ref (xa G 120)), (2, .int x39)]) hx hb dX9_tell_13 rfl hl (by decide) rfl (fun ls hl => ?_)
      refine xj (fun (zz : (Int32 × Mem)) => match zz with | (x67, M68) => ∀ (H : Heap) (locs : List Loc) (ls : Array Slot), va_P G.1 vwCl (wl G M68 h) H → va_S (Aw G) s.heap H locs → lv_has ls 5 [(0, .ref (xa G 120)), (2, .int x67)] → W p l e rm_X9_tell s m args below meth c H locs 0 0 Q (F0 m 75 ls [])) hf ?_ (fun hf => ?_)
      · rintro ⟨x67, M68⟩ hf H locs ls hP hS hl
        refine lv_iinc (v := (x67 + (-1))) (lv' := [(2, .int (x67 + (-1))), (0, .ref (xa G 120))]) hx hb dX9_tell_75 hl (k := 1) rfl rfl (by decide) rfl (fun ls hl => ?_)
        refine lv_goto (tgt := 8) hx hb dX9_tell_78 (by decide) ?_
        exact (it_c hf) _ _ _ hP hS (lv_sub hl [1, 0] rfl)
      · refine (it_W (fun (zz : (Int32 × Int32 × Mem)) => match zz with | (x64, x65, M66) => ∀ (H : Heap) (locs : List Loc) (ls : Array Slot), va_P G.1 vwCl (wl G M66 h) H → va_S (Aw G) s.heap H locs → lv_has ls 5 [(0, .ref (xa G 120)), (2, .int x64), (3, .int x65)] → W p l e rm_X9_tell s m args below meth c H locs 0 0 Q (F0 m 14 ls [])) hf ?_) _ _ _ hP hS (lv_sub hl [1, 2, 0] rfl)
        rintro ⟨x64, x65, M66⟩ hf H locs ls hP hS hl
        unfold f_X9_tell_b14 at hf
        refine lv_iload_n hx hb dX9_tell_14 rfl (lv_at hl 2 rfl) ?_
        refine lv_bipush (v := 16) hx hb dX9_tell_15 (by decide) ?_
        refine lv_icmp_ge (tgt := 75) hx hb dX9_tell_17 (by decide) (fun hc => ?_) (fun hc => ?_)
        · have hf := (OB_t hf hc)
          exact (it_e hf) _ _ _ hP hS (lv_sub hl [0, 1] rfl)
        · have hf := (OB_f hf hc)
          refine lv_iload_n hx hb dX9_tell_20 rfl (lv_at hl 1 rfl) ?_
          refine lv_bipush (v := 9) hx hb dX9_tell_21 (by decide) ?_
          refine xj (fun (x73 : Int32) => ∀ (H : Heap) (locs : List Loc) (ls : Array Slot), va_P G.1 vwCl (wl G M66 h) H → va_S (Aw G) s.heap H locs → lv_has ls 5 [(0, .ref (xa G 120)), (2, .int x64), (3, .int x65)] → W p l e rm_X9_tell s m args below meth c H locs 0 0 Q (F0 m 42 ls [.int x73])) hf ?_ (fun hf => ?_)
          · rintro x73 hf H locs ls hP hS hl
            refine lv_istore (lv' := [(4, .int x73), (0, .ref (xa G 120)), (2, .int x64), (3, .int x65)]) hx hb dX9_tell_42 hl (by decide) rfl (fun ls hl => ?_)
            refine lv_aload_n hx hb dX9_tell_44 rfl (lv_at hl 1 rfl) ?_
            refine gfX9_35 C hE hP dX9_tell_45 ?_
            refine lv_iload_n hx hb dX9_tell_48 rfl (lv_at hl 2 rfl) ?_
            refine lv_bipush (v := 16) hx hb dX9_tell_49 (by decide) ?_
            refine lv_imul hx hb dX9_tell_51 ?_
            refine lv_iload_n hx hb dX9_tell_52 rfl (lv_at hl 3 rfl) ?_
            refine lv_iadd hx hb dX9_tell_53 ?_
            refine lv_aload_n hx hb dX9_tell_54 rfl (lv_at hl 1 rfl) ?_
            refine gfX9_32 C hE hP dX9_tell_55 ?_
            refine lv_iload_n hx hb dX9_tell_58 rfl (lv_at hl 2 rfl) ?_
            refine lv_bipush (v := 16) hx hb dX9_tell_59 (by decide) ?_
            refine lv_imul hx hb dX9_tell_61 ?_
            refine lv_iload_n hx hb dX9_tell_62 rfl (lv_at hl 3 rfl) ?_
            refine lv_iadd hx hb dX9_tell_63 ?_
            obtain ⟨g76, hf⟩ := OB_g hf
            refine x_iald C hE hP sh126 g76 dX9_tell_64 ?_
            refine lv_iload hx hb dX9_tell_65 (lv_at hl 0 rfl) ?_
            refine lv_iadd hx hb dX9_tell_67 ?_
            refine x_iast C hE hP hS sh127 g76 dX9_tell_68 (fun H locs hP hS => ?_)
            refine lv_iinc (v := (x65 + 1)) (lv' := [(3, .int (x65 + 1)), (4, .int x73), (0, .ref (xa G 120)), (2, .int x64)]) hx hb dX9_tell_69 hl (k := 3) rfl rfl (by decide) rfl (fun ls hl => ?_)
            refine lv_goto (tgt := 14) hx hb dX9_tell_72 (by decide) ?_
            exact (it_c hf) _ _ _ hP hS (lv_sub hl [2, 3, 0] rfl)
          · skip
            refine lv_icmp_ne (tgt := 30) hx hb dX9_tell_23 (by decide) (fun hc => ?_) (fun hc => ?_)
            · have hf := (OB_f hf hc)
              refine lv_aload_n hx hb dX9_tell_30 rfl (lv_at hl 0 rfl) ?_
              refine lv_iload_n hx hb dX9_tell_31 rfl (lv_at hl 1 rfl) ?_
              refine lv_iload_n hx hb dX9_tell_32 rfl (lv_at hl 2 rfl) ?_
              refine lv_aload_n hx hb dX9_tell_33 rfl (lv_at hl 0 rfl) ?_
              refine lv_iload_n hx hb dX9_tell_34 rfl (lv_at hl 1 rfl) ?_
              refine lv_iload_n hx hb dX9_tell_35 rfl (lv_at hl 2 rfl) ?_
              refine x_ci0 (rest := [.int x65, .int x64, .ref (xa G 120)]) (x_runV C hE hP hS ykX9_bestNext lkX9_73 sh120 rfl (c_X9_bestNext (OB_bind hf)) (by decide) rfl hl.1 (Nat.le_of_ble_eq_true rfl) dX9_tell_36) hS (fun r74 H locs hf hP hS => ?_)
              refine x_ci0 (rest := []) (x_runV C hE hP hS ykX9_priceVia lkX9_77 sh120 rfl (c_X9_priceVia (OB_bind hf)) (by decide) rfl hl.1 (Nat.le_of_ble_eq_true rfl) dX9_tell_39) hS (fun r75 H locs hf hP hS => ?_)
              exact (OB_some hf) _ _ _ hP hS (lv_sub hl [0, 1, 2] rfl)
            · have hf := (OB_t hf hc)
              refine lv_iconst (v := 0) hx hb dX9_tell_26 (by decide) ?_
              refine lv_goto (tgt := 42) hx hb dX9_tell_27 (by decide) ?_
              exact (OB_some hf) _ _ _ hP hS (lv_sub hl [0, 1, 2] rfl)
def rm_X9_leastPrice : Room := { frames := 0, cells := 0, slots := 0, locals := 0 }
set_option maxRecDepth 100000 in
set_option maxHeartbeats 8000000 in
theorem c_X9_leastPrice {l : Launch} {G : GG}  {M : Mem} {h : Int64}  {P9 : Int32 → Prop} (hf : OB (f_X9_leastPrice M) P9) : Met1 l yX9_leastPrice cX9_leastPrice 1 (some .int) rm_X9_leastPrice G [.ref (xa G 120)] M h (QI0 G M h P9) := by
  unfold f_X9_leastPrice at hf
  refine xm_i0 (by decide) (Nat.le_of_ble_eq_true rfl) ?_
  intro p e s m args below meth c ls Q C hE hret hP hS hl
  have C : CallFix p m c cX9_leastPrice 1 s args TB RX9 := C
  have hx := C.1
  have hb := C.2.1
  have hl : lv_has ls 1 [(0, .ref (xa G 120))] := hl
  refine lv_aload_n hx hb dX9_leastPrice_0 rfl (lv_at hl 0 rfl) ?_
  refine gfX9_35 C hE hP dX9_leastPrice_1 ?_
  refine lv_iconst (v := 0) hx hb dX9_leastPrice_4 (by decide) ?_
  refine x_iald C hE hP sh127 (by decide) dX9_leastPrice_5 ?_
  exact hret _ _ _ _ _ (OB_some hf) hP hS dX9_leastPrice_6
def rm_X9_placeAt : Room := { frames := 0, cells := 0, slots := 0, locals := 0 }
set_option maxRecDepth 100000 in
set_option maxHeartbeats 8000000 in
theorem c_X9_placeAt {l : Launch} {G : GG} {a1 : Int32} {M : Mem} {h : Int64}  {P9 : Int32 → Prop} (hf : OB (f_X9_placeAt a1 M) P9) : Met1 l yX9_placeAt cX9_placeAt 2 (some .int) rm_X9_placeAt G [.ref (xa G 120), .int a1] M h (QI0 G M h P9) := by
  unfold f_X9_placeAt at hf
  refine xm_i0 (by decide) (Nat.le_of_ble_eq_true rfl) ?_
  intro p e s m args below meth c ls Q C hE hret hP hS hl
  have C : CallFix p m c cX9_placeAt 2 s args TB RX9 := C
  have hx := C.1
  have hb := C.2.1
  have hl : lv_has ls 2 [(0, .ref (xa G 120)), (1, .int a1)] := hl
  refine lv_aload_n hx hb dX9_placeAt_0 rfl (lv_at hl 0 rfl) ?_
  refine gfX9_38 C hE hP dX9_placeAt_1 ?_
  refine lv_iload_n hx hb dX9_placeAt_4 rfl (lv_at hl 1 rfl) ?_
  obtain ⟨g1, hf⟩ := OB_g hf
  refine x_iald C hE hP sh128 g1 dX9_placeAt_5 ?_
  exact hret _ _ _ _ _ (OB_some hf) hP hS dX9_placeAt_6
def rm_X9_figureOf : Room := { frames := 0, cells := 0, slots := 0, locals := 0 }
set_option maxRecDepth 100000 in
set_option maxHeartbeats 8000000 in
theorem c_X9_figureOf {l : Launch} {G : GG} {a0 : Int64} {a2 : Int32} {M : Mem} {h : Int64}  {P9 : Int32 → Prop} (hf : OB (f_X9_figureOf a0 a2) P9) : Met1 l yX9_figureOf cX9_figureOf 3 (some .int) rm_X9_figureOf G [.long a0, .int a2] M h (QI0 G M h P9) := by
  unfold f_X9_figureOf at hf
  refine xm_i0 (by decide) (Nat.le_of_ble_eq_true rfl) ?_
  intro p e s m args below meth c ls Q C hE hret hP hS hl
  have C : CallFix p m c cX9_figureOf 3 s args TB RX9 := C
  have hx := C.1
  have hb := C.2.1
  have hl : lv_has ls 3 [(0, .long a0), (2, .int a2)] := hl
  refine lv_lload_n hx hb dX9_figureOf_0 rfl (lv_at hl 0 rfl) ?_
  refine lv_iconst (v := 4) hx hb dX9_figureOf_1 (by decide) ?_
  refine lv_iload_n hx hb dX9_figureOf_2 rfl (lv_at hl 1 rfl) ?_
  refine lv_imul hx hb dX9_figureOf_3 ?_
  refine x_lshr C dX9_figureOf_4 ?_
  refine lv_ldc2 hx hb C.2.2.2.1 (C.2.2.2.2 _ ckX9_84) dX9_figureOf_5 ?_
  refine lv_land hx hb dX9_figureOf_8 ?_
  refine lv_l2i hx hb dX9_figureOf_9 rfl ?_
  exact hret _ _ _ _ _ (OB_some hf) hP hS dX9_figureOf_10
def rm_X9_priceOf : Room := { frames := 5, cells := 0, slots := 0, locals := 120 }
set_option maxRecDepth 100000 in
set_option maxHeartbeats 8000000 in
theorem c_X9_priceOf {l : Launch} {G : GG} {a1 : Int32} {a2 : Int64} {M : Mem} {h : Int64}  {P9 : (Int32 × Mem) → Prop} (hf : OB (f_X9_priceOf a1 a2 M) P9) : Met1 l yX9_priceOf cX9_priceOf 8 (some .int) rm_X9_priceOf G [.ref (xa G 120), .int a1, .long a2] M h (QI1 G h P9) := by
  unfold f_X9_priceOf at hf
  refine xm_i1 (by decide) (Nat.le_of_ble_eq_true rfl) ?_
  intro p e s m args below meth c ls Q C hE hret hP hS hl
  have C : CallFix p m c cX9_priceOf 8 s args TB RX9 := C
  have hx := C.1
  have hb := C.2.1
  have hl : lv_has ls 8 [(0, .ref (xa G 120)), (1, .int a1), (2, .long a2)] := hl
  refine lv_lload_n hx hb dX9_priceOf_0 rfl (lv_at hl 2 rfl) ?_
  refine lv_iconst (v := 0) hx hb dX9_priceOf_1 (by decide) ?_
  refine x_ci0 (rest := []) (x_runS C hE hP hS ykX9_figureOf lkX9_86 (c_X9_figureOf (OB_bind hf)) (by decide) rfl hl.1 (Nat.le_of_ble_eq_true rfl) dX9_priceOf_2) hS (fun r1 H locs hf hP hS => ?_)
  refine lv_if_eq (tgt := 10) hx hb dX9_priceOf_5 (by decide) (fun hc => ?_) (fun hc => ?_)
  · have hf := (OB_t hf hc)
    refine lv_aload_n hx hb dX9_priceOf_10 rfl (lv_at hl 0 rfl) ?_
    refine lv_iload_n hx hb dX9_priceOf_11 rfl (lv_at hl 1 rfl) ?_
    refine x_cv1 (rest := []) (x_runV C hE hP hS ykX9_oweAll lkX9_70 sh120 rfl (c_X9_oweAll (OB_bind hf)) (by decide) rfl hl.1 (Nat.le_of_ble_eq_true rfl) dX9_priceOf_12) hS (fun M2 H locs hf hP hS => ?_)
    refine lv_aload_n hx hb dX9_priceOf_15 rfl (lv_at hl 0 rfl) ?_
    refine gfX9_32 C hE hP dX9_priceOf_16 ?_
    refine lv_iconst (v := 0) hx hb dX9_priceOf_19 (by decide) ?_
    refine x_iald C hE hP sh126 (by decide) dX9_priceOf_20 ?_
    refine lv_istore (lv' := [(4, .int (M2 126 (Int32.toNatClampNeg 0))), (0, .ref (xa G 120)), (1, .int a1), (2, .long a2)]) hx hb dX9_priceOf_21 hl (by decide) rfl (fun ls hl => ?_)
    refine lv_iconst (v := 1) hx hb dX9_priceOf_23 (by decide) ?_
    refine lv_istore (lv' := [(5, .int 1), (4, .int (M2 126 (Int32.toNatClampNeg 0))), (0, .ref (xa G 120)), (1, .int a1), (2, .long a2)]) hx hb dX9_priceOf_24 hl (by decide) rfl (fun ls hl => ?_)
    refine xj (it_P (fun (x17 : Int32) => ∀ (H : Heap) (locs : List Loc) (ls : Array Slot), va_P G.1 vwCl (wl G M2 h) H → va_S (Aw G) s.heap H locs → lv_has ls 8 [(4, .int x17)] → W p l e rm_X9_priceOf s m args below meth c H locs 0 0 Q (F0 m 94 ls [])) P9) hf ?_ (fun hf => ?_)
    · rintro (x17 | v) hf
      · intro H locs ls hP hS hl
        refine lv_iload hx hb dX9_priceOf_94 (lv_at hl 0 rfl) ?_
        exact hret _ _ _ _ _ _ (OB_some hf) hP hS dX9_priceOf_96
      · exact it_q hf
    · refine (it_W (fun (zz : (Int32 × Int32)) => match zz with | (x15, x16) => ∀ (H : Heap) (locs : List Loc) (ls : Array Slot), va_P G.1 vwCl (wl G M2 h) H → va_S (Aw G) s.heap H locs → lv_has ls 8 [(0, .ref (xa G 120)), (2, .long a2), (4, .int x15), (5, .int x16)] → W p l e rm_X9_priceOf s m args below meth c H locs 0 0 Q (F0 m 26 ls [])) hf ?_) _ _ _ hP hS (lv_sub hl [2, 4, 1, 0] rfl)
      rintro ⟨x15, x16⟩ hf H locs ls hP hS hl
      unfold f_X9_priceOf_b26 at hf
      refine lv_iload hx hb dX9_priceOf_26 (lv_at hl 3 rfl) ?_
      refine lv_bipush (v := 10) hx hb dX9_priceOf_28 (by decide) ?_
      refine lv_icmp_ge (tgt := 94) hx hb dX9_priceOf_30 (by decide) (fun hc => ?_) (fun hc => ?_)
      · have hf := (OB_t hf hc)
        exact (it_e hf) _ _ _ hP hS (lv_sub hl [2] rfl)
      · have hf := (OB_f hf hc)
        refine lv_lload_n hx hb dX9_priceOf_33 rfl (lv_at hl 1 rfl) ?_
        refine lv_iload hx hb dX9_priceOf_34 (lv_at hl 3 rfl) ?_
        refine x_ci0 (rest := []) (x_runS C hE hP hS ykX9_figureOf lkX9_86 (c_X9_figureOf (OB_bind hf)) (by decide) rfl hl.1 (Nat.le_of_ble_eq_true rfl) dX9_priceOf_36) hS (fun r18 H locs hf hP hS => ?_)
        refine lv_istore (lv' := [(6, .int r18), (0, .ref (xa G 120)), (2, .long a2), (4, .int x15), (5, .int x16)]) hx hb dX9_priceOf_39 hl (by decide) rfl (fun ls hl => ?_)
        refine lv_lload_n hx hb dX9_priceOf_41 rfl (lv_at hl 2 rfl) ?_
        refine lv_iload hx hb dX9_priceOf_42 (lv_at hl 4 rfl) ?_
        refine lv_iconst (v := 1) hx hb dX9_priceOf_44 (by decide) ?_
        refine lv_isub hx hb dX9_priceOf_45 ?_
        refine x_ci0 (rest := []) (x_runS C hE hP hS ykX9_figureOf lkX9_86 (c_X9_figureOf (OB_bind hf)) (by decide) rfl hl.1 (Nat.le_of_ble_eq_true rfl) dX9_priceOf_46) hS (fun r19 H locs hf hP hS => ?_)
        refine lv_iload hx hb dX9_priceOf_49 (lv_at hl 0 rfl) ?_
        refine x_ci0 (rest := []) (x_runSN C hE hP hS ykX11_ringDistance lkX9_81 (c_X11_ringDistance (OB_bind hf)) (by decide) rfl hl.1 (Nat.le_of_ble_eq_true rfl) dX9_priceOf_51) hS (fun r20 H locs hf hP hS => ?_)
        refine lv_istore (lv' := [(7, .int r20), (6, .int r18), (0, .ref (xa G 120)), (2, .long a2), (4, .int x15), (5, .int x16)]) hx hb dX9_priceOf_54 hl (by decide) rfl (fun ls hl => ?_)
        refine lv_iload hx hb dX9_priceOf_56 (lv_at hl 0 rfl) ?_
        refine lv_aload_n hx hb dX9_priceOf_58 rfl (lv_at hl 2 rfl) ?_
        refine gfX9_28 C hE hP dX9_priceOf_59 ?_
        refine lv_icmp_le (tgt := 67) hx hb dX9_priceOf_62 (by decide) (fun hc => ?_) (fun hc => ?_)
        · have hf := (OB_t hf hc)
          refine lv_iload hx hb dX9_priceOf_67 (lv_at hl 4 rfl) ?_
          refine lv_iload hx hb dX9_priceOf_69 (lv_at hl 0 rfl) ?_
          refine lv_aload_n hx hb dX9_priceOf_71 rfl (lv_at hl 2 rfl) ?_
          refine gfX9_32 C hE hP dX9_priceOf_72 ?_
          refine lv_iload hx hb dX9_priceOf_75 (lv_at hl 5 rfl) ?_
          refine lv_bipush (v := 16) hx hb dX9_priceOf_77 (by decide) ?_
          refine lv_imul hx hb dX9_priceOf_79 ?_
          refine lv_iload hx hb dX9_priceOf_80 (lv_at hl 1 rfl) ?_
          refine lv_iadd hx hb dX9_priceOf_82 ?_
          obtain ⟨g21, hf⟩ := OB_g hf
          refine x_iald C hE hP sh126 g21 dX9_priceOf_83 ?_
          refine lv_iadd hx hb dX9_priceOf_84 ?_
          refine lv_iadd hx hb dX9_priceOf_85 ?_
          refine lv_istore (lv' := [(4, .int (x15 + (r20 + (M2 126 (Int32.toNatClampNeg ((x16 * 16) + r18)))))), (7, .int r20), (6, .int r18), (0, .ref (xa G 120)), (2, .long a2), (5, .int x16)]) hx hb dX9_priceOf_86 hl (by decide) rfl (fun ls hl => ?_)
          refine lv_iinc (v := (x16 + 1)) (lv' := [(5, .int (x16 + 1)), (4, .int (x15 + (r20 + (M2 126 (Int32.toNatClampNeg ((x16 * 16) + r18)))))), (7, .int r20), (6, .int r18), (0, .ref (xa G 120)), (2, .long a2)]) hx hb dX9_priceOf_88 hl (k := 5) rfl rfl (by decide) rfl (fun ls hl => ?_)
          refine lv_goto (tgt := 26) hx hb dX9_priceOf_91 (by decide) ?_
          exact (it_c hf) _ _ _ hP hS (lv_sub hl [4, 5, 1, 0] rfl)
        · have hf := (OB_f hf hc)
          refine lv_iconst (v := -1) hx hb dX9_priceOf_65 (by decide) ?_
          exact hret _ _ _ _ _ _ (it_r hf) hP hS dX9_priceOf_66
  · have hf := (OB_f hf hc)
    refine lv_iconst (v := -1) hx hb dX9_priceOf_8 (by decide) ?_
    exact hret _ _ _ _ _ _ (OB_some hf) hP hS dX9_priceOf_9
def rm_X9_told : Room := { frames := 1, cells := 0, slots := 0, locals := 23 }
set_option maxRecDepth 100000 in
set_option maxHeartbeats 8000000 in
theorem c_X9_told {l : Launch} {G : GG} {a1 : Int64} {M : Mem} {h : Int64}  {P9 : Int64 → Prop} (hf : OB (f_X9_told a1 M) P9) : Met1 l yX9_told cX9_told 4 (some .long) rm_X9_told G [.ref (xa G 120), .long a1] M h (QL0 G M h P9) := by
  unfold f_X9_told at hf
  refine xm_l0 (by decide) (Nat.le_of_ble_eq_true rfl) ?_
  intro p e s m args below meth c ls Q C hE hret hP hS hl
  have C : CallFix p m c cX9_told 4 s args TB RX9 := C
  have hx := C.1
  have hb := C.2.1
  have hl : lv_has ls 4 [(0, .ref (xa G 120)), (1, .long a1)] := hl
  refine lv_lload_n hx hb dX9_told_0 rfl (lv_at hl 1 rfl) ?_
  refine lv_aload_n hx hb dX9_told_1 rfl (lv_at hl 0 rfl) ?_
  refine gfX9_28 C hE hP dX9_told_2 ?_
  refine lv_i2l hx hb dX9_told_5 rfl ?_
  refine x_cl0 (rest := []) (x_runSN C hE hP hS ykX11_then lkX9_90 (c_X11_then (OB_bind hf)) (by decide) rfl hl.1 (Nat.le_of_ble_eq_true rfl) dX9_told_6) hS (fun r1 H locs hf hP hS => ?_)
  refine lv_lstore_n (lv' := [(1, .long r1), (0, .ref (xa G 120))]) hx hb dX9_told_9 rfl hl (by decide) rfl (fun ls hl => ?_)
  refine lv_iconst (v := 0) hx hb dX9_told_10 (by decide) ?_
  refine lv_istore_n (lv' := [(3, .int 0), (1, .long r1), (0, .ref (xa G 120))]) hx hb dX9_told_11 rfl hl (by decide) rfl (fun ls hl => ?_)
  refine xj (fun (x22 : Int64) => ∀ (H : Heap) (locs : List Loc) (ls : Array Slot), va_P G.1 vwCl (wl G M h) H → va_S (Aw G) s.heap H locs → lv_has ls 4 [(1, .long x22)] → W p l e rm_X9_told s m args below meth c H locs 0 0 Q (F0 m 93 ls [])) hf ?_ (fun hf => ?_)
  · rintro x22 hf H locs ls hP hS hl
    refine lv_lload_n hx hb dX9_told_93 rfl (lv_at hl 0 rfl) ?_
    exact hret _ _ _ _ _ (OB_some hf) hP hS dX9_told_94
  · refine (it_W (fun (zz : (Int64 × Int32)) => match zz with | (x20, x21) => ∀ (H : Heap) (locs : List Loc) (ls : Array Slot), va_P G.1 vwCl (wl G M h) H → va_S (Aw G) s.heap H locs → lv_has ls 4 [(0, .ref (xa G 120)), (1, .long x20), (3, .int x21)] → W p l e rm_X9_told s m args below meth c H locs 0 0 Q (F0 m 12 ls [])) hf ?_) _ _ _ hP hS (lv_sub hl [2, 1, 0] rfl)
    rintro ⟨x20, x21⟩ hf H locs ls hP hS hl
    unfold f_X9_told_b12 at hf
    refine lv_iload_n hx hb dX9_told_12 rfl (lv_at hl 2 rfl) ?_
    refine lv_aload_n hx hb dX9_told_13 rfl (lv_at hl 0 rfl) ?_
    refine gfX9_45 C hE hP dX9_told_14 ?_
    refine lv_icmp_ge (tgt := 93) hx hb dX9_told_17 (by decide) (fun hc => ?_) (fun hc => ?_)
    · have hf := (OB_t hf hc)
      exact (it_e hf) _ _ _ hP hS (lv_sub hl [1] rfl)
    · have hf := (OB_f hf hc)
      refine lv_lload_n hx hb dX9_told_20 rfl (lv_at hl 1 rfl) ?_
      refine lv_aload_n hx hb dX9_told_21 rfl (lv_at hl 0 rfl) ?_
      refine gfX9_11 C hE hP dX9_told_22 ?_
      refine lv_iload_n hx hb dX9_told_25 rfl (lv_at hl 2 rfl) ?_
      obtain ⟨g23, hf⟩ := OB_g hf
      refine x_iald C hE hP sh121 g23 dX9_told_26 ?_
      refine lv_i2l hx hb dX9_told_27 rfl ?_
      refine x_cl0 (rest := []) (x_runSN C hE hP hS ykX11_then lkX9_90 (c_X11_then (OB_bind hf)) (by decide) rfl hl.1 (Nat.le_of_ble_eq_true rfl) dX9_told_28) hS (fun r24 H locs hf hP hS => ?_)
      refine lv_lstore_n (lv' := [(1, .long r24), (0, .ref (xa G 120)), (3, .int x21)]) hx hb dX9_told_31 rfl hl (by decide) rfl (fun ls hl => ?_)
      refine lv_lload_n hx hb dX9_told_32 rfl (lv_at hl 0 rfl) ?_
      refine lv_aload_n hx hb dX9_told_33 rfl (lv_at hl 1 rfl) ?_
      refine gfX9_15 C hE hP dX9_told_34 ?_
      refine lv_iload_n hx hb dX9_told_37 rfl (lv_at hl 2 rfl) ?_
      refine x_iald C hE hP sh122 g23 dX9_told_38 ?_
      refine lv_i2l hx hb dX9_told_39 rfl ?_
      refine x_cl0 (rest := []) (x_runSN C hE hP hS ykX11_then lkX9_90 (c_X11_then (OB_bind hf)) (by decide) rfl hl.1 (Nat.le_of_ble_eq_true rfl) dX9_told_40) hS (fun r25 H locs hf hP hS => ?_)
      refine lv_lstore_n (lv' := [(1, .long r25), (0, .ref (xa G 120)), (3, .int x21)]) hx hb dX9_told_43 rfl hl (by decide) rfl (fun ls hl => ?_)
      refine lv_lload_n hx hb dX9_told_44 rfl (lv_at hl 0 rfl) ?_
      refine lv_aload_n hx hb dX9_told_45 rfl (lv_at hl 1 rfl) ?_
      refine gfX9_18 C hE hP dX9_told_46 ?_
      refine lv_iload_n hx hb dX9_told_49 rfl (lv_at hl 2 rfl) ?_
      refine x_iald C hE hP sh123 g23 dX9_told_50 ?_
      refine lv_i2l hx hb dX9_told_51 rfl ?_
      refine x_cl0 (rest := []) (x_runSN C hE hP hS ykX11_then lkX9_90 (c_X11_then (OB_bind hf)) (by decide) rfl hl.1 (Nat.le_of_ble_eq_true rfl) dX9_told_52) hS (fun r26 H locs hf hP hS => ?_)
      refine lv_lstore_n (lv' := [(1, .long r26), (0, .ref (xa G 120)), (3, .int x21)]) hx hb dX9_told_55 rfl hl (by decide) rfl (fun ls hl => ?_)
      refine lv_lload_n hx hb dX9_told_56 rfl (lv_at hl 0 rfl) ?_
      refine lv_aload_n hx hb dX9_told_57 rfl (lv_at hl 1 rfl) ?_
      refine gfX9_21 C hE hP dX9_told_58 ?_
      refine lv_iload_n hx hb dX9_told_61 rfl (lv_at hl 2 rfl) ?_
      refine x_zald C hE hP sh124 g23 dX9_told_62 ?_
      refine xj (fun (x27 : Int64) => ∀ (H : Heap) (locs : List Loc) (ls : Array Slot), va_P G.1 vwCl (wl G M h) H → va_S (Aw G) s.heap H locs → lv_has ls 4 [(0, .ref (xa G 120)), (3, .int x21)] → W p l e rm_X9_told s m args below meth c H locs 0 0 Q (F0 m 71 ls [.long x27, .long r26])) hf ?_ (fun hf => ?_)
      · rintro x27 hf H locs ls hP hS hl
        refine x_cl0 (rest := []) (x_runSN C hE hP hS ykX11_then lkX9_90 (c_X11_then (OB_bind hf)) (by decide) rfl hl.1 (Nat.le_of_ble_eq_true rfl) dX9_told_71) hS (fun r28 H locs hf hP hS => ?_)
        refine lv_lstore_n (lv' := [(1, .long r28), (0, .ref (xa G 120)), (3, .int x21)]) hx hb dX9_told_74 rfl hl (by decide) rfl (fun ls hl => ?_)
        refine lv_lload_n hx hb dX9_told_75 rfl (lv_at hl 0 rfl) ?_
        refine lv_aload_n hx hb dX9_told_76 rfl (lv_at hl 1 rfl) ?_
        refine gfX9_25 C hE hP dX9_told_77 ?_
        refine lv_iload_n hx hb dX9_told_80 rfl (lv_at hl 2 rfl) ?_
        refine x_iald C hE hP sh125 g23 dX9_told_81 ?_
        refine lv_i2l hx hb dX9_told_82 rfl ?_
        refine x_cl0 (rest := []) (x_runSN C hE hP hS ykX11_then lkX9_90 (c_X11_then (OB_bind hf)) (by decide) rfl hl.1 (Nat.le_of_ble_eq_true rfl) dX9_told_83) hS (fun r29 H locs hf hP hS => ?_)
        refine lv_lstore_n (lv' := [(1, .long r29), (0, .ref (xa G 120)), (3, .int x21)]) hx hb dX9_told_86 rfl hl (by decide) rfl (fun ls hl => ?_)
        refine lv_iinc (v := (x21 + 1)) (lv' := [(3, .int (x21 + 1)), (1, .long r29), (0, .ref (xa G 120))]) hx hb dX9_told_87 hl (k := 2) rfl rfl (by decide) rfl (fun ls hl => ?_)
        refine lv_goto (tgt := 12) hx hb dX9_told_90 (by decide) ?_
        exact (it_c hf) _ _ _ hP hS (lv_sub hl [2, 1, 0] rfl)
      · skip
        refine lv_if_eq (tgt := 70) hx hb dX9_told_63 (by decide) (fun hc => ?_) (fun hc => ?_)
        · have hf := (OB_t hf hc)
          refine lv_lconst (v := 0) hx hb dX9_told_70 (by decide) ?_
          exact (OB_some hf) _ _ _ hP hS (lv_sub hl [1, 2] rfl)
        · have hf := (OB_f hf hc)
          refine lv_lconst (v := 1) hx hb dX9_told_66 (by decide) ?_
          refine lv_goto (tgt := 71) hx hb dX9_told_67 (by decide) ?_
          exact (OB_some hf) _ _ _ hP hS (lv_sub hl [1, 2] rfl)
def rm_X10_change : Room := { frames := 0, cells := 0, slots := 0, locals := 0 }
set_option maxRecDepth 100000 in
set_option maxHeartbeats 8000000 in
theorem c_X10_change {l : Launch} {G : GG} {a1 : Int32} {M : Mem} {h : Int64}  {P9 : (Int32 × Mem) → Prop} (hf : OB (f_X10_change a1 M) P9) : Met1 l yX10_change cX10_change 3 (some .int) rm_X10_change G [.ref (xa G 131), .int a1] M h (QI1 G h P9) := by
  unfold f_X10_change at hf
  refine xm_i1 (by decide) (Nat.le_of_ble_eq_true rfl) ?_
  intro p e s m args below meth c ls Q C hE hret hP hS hl
  have C : CallFix p m c cX10_change 3 s args TB RX10 := C
  have hx := C.1
  have hb := C.2.1
  have hl : lv_has ls 3 [(0, .ref (xa G 131)), (1, .int a1)] := hl
  refine lv_aload_n hx hb dX10_change_0 rfl (lv_at hl 0 rfl) ?_
  refine gfX10_9 C hE hP dX10_change_1 ?_
  refine lv_istore_n (lv' := [(2, .int (M 131 0)), (0, .ref (xa G 131)), (1, .int a1)]) hx hb dX10_change_4 rfl hl (by decide) rfl (fun ls hl => ?_)
  refine lv_aload_n hx hb dX10_change_5 rfl (lv_at hl 1 rfl) ?_
  refine lv_iload_n hx hb dX10_change_6 rfl (lv_at hl 2 rfl) ?_
  refine pfX10_9 C hE hP hS dX10_change_7 (fun H locs hP hS => ?_)
  refine lv_iload_n hx hb dX10_change_10 rfl (lv_at hl 0 rfl) ?_
  exact hret _ _ _ _ _ _ (OB_some hf) hP hS dX10_change_11
def rm_X10_sameAbout : Room := { frames := 1, cells := 0, slots := 0, locals := 21 }
set_option maxRecDepth 100000 in
set_option maxHeartbeats 8000000 in
theorem c_X10_sameAbout {l : Launch} {G : GG} {a1 : Int32} {M : Mem} {h : Int64}  {P9 : Int32 → Prop} (hf : OB (f_X10_sameAbout a1 M) P9) : Met1 l yX10_sameAbout cX10_sameAbout 4 (some .int) rm_X10_sameAbout G [.ref (xa G 131), .int a1] M h (QI0 G M h P9) := by
  unfold f_X10_sameAbout at hf
  refine xm_i0 (by decide) (Nat.le_of_ble_eq_true rfl) ?_
  intro p e s m args below meth c ls Q C hE hret hP hS hl
  have C : CallFix p m c cX10_sameAbout 4 s args TB RX10 := C
  have hx := C.1
  have hb := C.2.1
  have hl : lv_has ls 4 [(0, .ref (xa G 131)), (1, .int a1)] := hl
  refine lv_iload_n hx hb dX10_sameAbout_0 rfl (lv_at hl 1 rfl) ?_
  refine lv_bipush (v := 24) hx hb dX10_sameAbout_1 (by decide) ?_
  refine lv_iload_n hx hb dX10_sameAbout_3 rfl (lv_at hl 1 rfl) ?_
  refine lv_isub hx hb dX10_sameAbout_4 ?_
  refine x_mmin C hl.1 lkX10_13 (by decide) (Nat.le_of_ble_eq_true rfl) dX10_sameAbout_5 ?_
  refine lv_istore_n (lv' := [(2, .int (jmin a1 (24 - a1))), (0, .ref (xa G 131)), (1, .int a1)]) hx hb dX10_sameAbout_8 rfl hl (by decide) rfl (fun ls hl => ?_)
  refine lv_iconst (v := 0) hx hb dX10_sameAbout_9 (by decide) ?_
  refine lv_istore_n (lv' := [(3, .int 0), (2, .int (jmin a1 (24 - a1))), (0, .ref (xa G 131)), (1, .int a1)]) hx hb dX10_sameAbout_10 rfl hl (by decide) rfl (fun ls hl => ?_)
  refine xj (it_P (fun (_ : Unit) => ∀ (H : Heap) (locs : List Loc) (ls : Array Slot), va_P G.1 vwCl (wl G M h) H → va_S (Aw G) s.heap H locs → lv_has ls 4 [(2, .int (jmin a1 (24 - a1)))] → W p l e rm_X10_sameAbout s m args below meth c H locs 0 0 Q (F0 m 49 ls [])) P9) hf ?_ (fun hf => ?_)
  · rintro (_ | v) hf
    · intro H locs ls hP hS hl
      refine lv_iload_n hx hb dX10_sameAbout_49 rfl (lv_at hl 0 rfl) ?_
      exact hret _ _ _ _ _ (OB_some hf) hP hS dX10_sameAbout_50
    · exact it_q hf
  · refine (it_W (fun (x3 : Int32) => ∀ (H : Heap) (locs : List Loc) (ls : Array Slot), va_P G.1 vwCl (wl G M h) H → va_S (Aw G) s.heap H locs → lv_has ls 4 [(0, .ref (xa G 131)), (1, .int a1), (2, .int (jmin a1 (24 - a1))), (3, .int x3)] → W p l e rm_X10_sameAbout s m args below meth c H locs 0 0 Q (F0 m 11 ls [])) hf ?_) _ _ _ hP hS (lv_sub hl [2, 3, 1, 0] rfl)
    rintro x3 hf H locs ls hP hS hl
    unfold f_X10_sameAbout_b11 at hf
    refine lv_iload_n hx hb dX10_sameAbout_11 rfl (lv_at hl 3 rfl) ?_
    refine lv_iload_n hx hb dX10_sameAbout_12 rfl (lv_at hl 2 rfl) ?_
    refine lv_icmp_ge (tgt := 49) hx hb dX10_sameAbout_13 (by decide) (fun hc => ?_) (fun hc => ?_)
    · have hf := (OB_t hf hc)
      exact (it_e hf) _ _ _ hP hS (lv_sub hl [2] rfl)
    · have hf := (OB_f hf hc)
      refine lv_aload_n hx hb dX10_sameAbout_16 rfl (lv_at hl 0 rfl) ?_
      refine gfX10_9 C hE hP dX10_sameAbout_17 ?_
      refine lv_iload_n hx hb dX10_sameAbout_20 rfl (lv_at hl 1 rfl) ?_
      refine lv_iconst (v := 1) hx hb dX10_sameAbout_21 (by decide) ?_
      refine lv_isub hx hb dX10_sameAbout_22 ?_
      refine lv_iload_n hx hb dX10_sameAbout_23 rfl (lv_at hl 3 rfl) ?_
      refine lv_isub hx hb dX10_sameAbout_24 ?_
      refine x_ishr C dX10_sameAbout_25 ?_
      refine lv_iconst (v := 1) hx hb dX10_sameAbout_26 (by decide) ?_
      refine lv_iand hx hb dX10_sameAbout_27 ?_
      refine lv_aload_n hx hb dX10_sameAbout_28 rfl (lv_at hl 0 rfl) ?_
      refine gfX10_9 C hE hP dX10_sameAbout_29 ?_
      refine lv_iload_n hx hb dX10_sameAbout_32 rfl (lv_at hl 1 rfl) ?_
      refine lv_iload_n hx hb dX10_sameAbout_33 rfl (lv_at hl 3 rfl) ?_
      refine lv_iadd hx hb dX10_sameAbout_34 ?_
      refine x_ishr C dX10_sameAbout_35 ?_
      refine lv_iconst (v := 1) hx hb dX10_sameAbout_36 (by decide) ?_
      refine lv_iand hx hb dX10_sameAbout_37 ?_
      refine lv_icmp_eq (tgt := 43) hx hb dX10_sameAbout_38 (by decide) (fun hc => ?_) (fun hc => ?_)
      · have hf := (OB_t hf hc)
        refine lv_iinc (v := (x3 + 1)) (lv' := [(3, .int (x3 + 1)), (0, .ref (xa G 131)), (1, .int a1), (2, .int (jmin a1 (24 - a1)))]) hx hb dX10_sameAbout_43 hl (k := 3) rfl rfl (by decide) rfl (fun ls hl => ?_)
        refine lv_goto (tgt := 11) hx hb dX10_sameAbout_46 (by decide) ?_
        exact (it_c hf) _ _ _ hP hS (lv_sub hl [1, 2, 3, 0] rfl)
      · have hf := (OB_f hf hc)
        refine lv_iload_n hx hb dX10_sameAbout_41 rfl (lv_at hl 3 rfl) ?_
        exact hret _ _ _ _ _ (it_r hf) hP hS dX10_sameAbout_42
def rm_X10_bestPlace : Room := { frames := 2, cells := 0, slots := 0, locals := 44 }
set_option maxRecDepth 100000 in
set_option maxHeartbeats 8000000 in
theorem c_X10_bestPlace {l : Launch} {G : GG}  {M : Mem} {h : Int64}  {P9 : Int32 → Prop} (hf : OB (f_X10_bestPlace M) P9) : Met1 l yX10_bestPlace cX10_bestPlace 6 (some .int) rm_X10_bestPlace G [.ref (xa G 131)] M h (QI0 G M h P9) := by
  unfold f_X10_bestPlace at hf
  refine xm_i0 (by decide) (Nat.le_of_ble_eq_true rfl) ?_
  intro p e s m args below meth c ls Q C hE hret hP hS hl
  have C : CallFix p m c cX10_bestPlace 6 s args TB RX10 := C
  have hx := C.1
  have hb := C.2.1
  have hl : lv_has ls 6 [(0, .ref (xa G 131))] := hl
  refine lv_iconst (v := 1) hx hb dX10_bestPlace_0 (by decide) ?_
  refine lv_istore_n (lv' := [(1, .int 1), (0, .ref (xa G 131))]) hx hb dX10_bestPlace_1 rfl hl (by decide) rfl (fun ls hl => ?_)
  refine lv_aload_n hx hb dX10_bestPlace_2 rfl (lv_at hl 1 rfl) ?_
  refine lv_iconst (v := 1) hx hb dX10_bestPlace_3 (by decide) ?_
  refine x_ci0 (rest := []) (x_runV C hE hP hS ykX10_sameAbout lkX10_19 sh131 rfl (c_X10_sameAbout (OB_bind hf)) (by decide) rfl hl.1 (Nat.le_of_ble_eq_true rfl) dX10_bestPlace_4) hS (fun r1 H locs hf hP hS => ?_)
  refine lv_istore_n (lv' := [(2, .int r1), (1, .int 1), (0, .ref (xa G 131))]) hx hb dX10_bestPlace_7 rfl hl (by decide) rfl (fun ls hl => ?_)
  refine lv_iconst (v := 2) hx hb dX10_bestPlace_8 (by decide) ?_
  refine lv_istore_n (lv' := [(3, .int 2), (2, .int r1), (1, .int 1), (0, .ref (xa G 131))]) hx hb dX10_bestPlace_9 rfl hl (by decide) rfl (fun ls hl => ?_)
  refine xj (fun (x26 : Int32) => ∀ (H : Heap) (locs : List Loc) (ls : Array Slot), va_P G.1 vwCl (wl G M h) H → va_S (Aw G) s.heap H locs → lv_has ls 6 [(1, .int x26)] → W p l e rm_X10_bestPlace s m args below meth c H locs 0 0 Q (F0 m 75 ls [])) hf ?_ (fun hf => ?_)
  · rintro x26 hf H locs ls hP hS hl
    refine lv_iload_n hx hb dX10_bestPlace_75 rfl (lv_at hl 0 rfl) ?_
    exact hret _ _ _ _ _ (OB_some hf) hP hS dX10_bestPlace_76
  · refine (it_W (fun (zz : (Int32 × Int32 × Int32)) => match zz with | (x23, x24, x25) => ∀ (H : Heap) (locs : List Loc) (ls : Array Slot), va_P G.1 vwCl (wl G M h) H → va_S (Aw G) s.heap H locs → lv_has ls 6 [(0, .ref (xa G 131)), (1, .int x23), (2, .int x24), (3, .int x25)] → W p l e rm_X10_bestPlace s m args below meth c H locs 0 0 Q (F0 m 10 ls [])) hf ?_) _ _ _ hP hS (lv_sub hl [3, 2, 1, 0] rfl)
    rintro ⟨x23, x24, x25⟩ hf H locs ls hP hS hl
    unfold f_X10_bestPlace_b10 at hf
    refine lv_iload_n hx hb dX10_bestPlace_10 rfl (lv_at hl 3 rfl) ?_
    refine lv_bipush (v := 24) hx hb dX10_bestPlace_11 (by decide) ?_
    refine lv_icmp_ge (tgt := 75) hx hb dX10_bestPlace_13 (by decide) (fun hc => ?_) (fun hc => ?_)
    · have hf := (OB_t hf hc)
      exact (it_e hf) _ _ _ hP hS (lv_sub hl [1] rfl)
    · have hf := (OB_f hf hc)
      refine lv_aload_n hx hb dX10_bestPlace_16 rfl (lv_at hl 0 rfl) ?_
      refine lv_iload_n hx hb dX10_bestPlace_17 rfl (lv_at hl 3 rfl) ?_
      refine x_ci0 (rest := []) (x_runV C hE hP hS ykX10_sameAbout lkX10_19 sh131 rfl (c_X10_sameAbout (OB_bind hf)) (by decide) rfl hl.1 (Nat.le_of_ble_eq_true rfl) dX10_bestPlace_18) hS (fun r27 H locs hf hP hS => ?_)
      refine lv_istore (lv' := [(4, .int r27), (0, .ref (xa G 131)), (1, .int x23), (2, .int x24), (3, .int x25)]) hx hb dX10_bestPlace_21 hl (by decide) rfl (fun ls hl => ?_)
      refine lv_iload_n hx hb dX10_bestPlace_23 rfl (lv_at hl 4 rfl) ?_
      refine lv_bipush (v := 12) hx hb dX10_bestPlace_24 (by decide) ?_
      refine lv_isub hx hb dX10_bestPlace_26 ?_
      refine x_mabs C hl.1 lkX10_23 (by decide) (Nat.le_of_ble_eq_true rfl) dX10_bestPlace_27 ?_
      refine lv_iload_n hx hb dX10_bestPlace_30 rfl (lv_at hl 2 rfl) ?_
      refine lv_bipush (v := 12) hx hb dX10_bestPlace_31 (by decide) ?_
      refine lv_isub hx hb dX10_bestPlace_33 ?_
      refine x_mabs C hl.1 lkX10_23 (by decide) (Nat.le_of_ble_eq_true rfl) dX10_bestPlace_34 ?_
      refine xj (fun (x28 : Bool) => ∀ (H : Heap) (locs : List Loc) (ls : Array Slot), va_P G.1 vwCl (wl G M h) H → va_S (Aw G) s.heap H locs → lv_has ls 6 [(0, .ref (xa G 131)), (1, .int x23), (2, .int x24), (3, .int x25), (4, .int r27)] → W p l e rm_X10_bestPlace s m args below meth c H locs 0 0 Q (F0 m 45 ls [.int (bI x28)])) hf ?_ (fun hf => ?_)
      · rintro x28 hf H locs ls hP hS hl
        refine lv_istore (lv' := [(5, .int (bI x28)), (0, .ref (xa G 131)), (1, .int x23), (2, .int x24), (3, .int x25), (4, .int r27)]) hx hb dX10_bestPlace_45 hl (by decide) rfl (fun ls hl => ?_)
        refine lv_iload hx hb dX10_bestPlace_47 (lv_at hl 5 rfl) ?_
        refine lv_iload_n hx hb dX10_bestPlace_49 rfl (lv_at hl 3 rfl) ?_
        refine xj (fun (zz : (Int32 × Int32)) => match zz with | (x29, x30) => ∀ (H : Heap) (locs : List Loc) (ls : Array Slot), va_P G.1 vwCl (wl G M h) H → va_S (Aw G) s.heap H locs → lv_has ls 6 [(0, .ref (xa G 131)), (1, .int x29), (2, .int x30), (3, .int x25)] → W p l e rm_X10_bestPlace s m args below meth c H locs 0 0 Q (F0 m 69 ls [])) hf ?_ (fun hf => ?_)
        · rintro ⟨x29, x30⟩ hf H locs ls hP hS hl
          refine lv_iinc (v := (x25 + 1)) (lv' := [(3, .int (x25 + 1)), (0, .ref (xa G 131)), (1, .int x29), (2, .int x30)]) hx hb dX10_bestPlace_69 hl (k := 3) rfl rfl (by decide) rfl (fun ls hl => ?_)
          refine lv_goto (tgt := 10) hx hb dX10_bestPlace_72 (by decide) ?_
          exact (it_c hf) _ _ _ hP hS (lv_sub hl [1, 2, 3, 0] rfl)
        · skip
          refine lv_icmp_gt (tgt := 64) hx hb dX10_bestPlace_50 (by decide) (fun hc => ?_) (fun hc => ?_)
          · have hf := (OB_t hf hc)
            refine lv_iload_n hx hb dX10_bestPlace_64 rfl (lv_at hl 4 rfl) ?_
            refine lv_istore_n (lv' := [(1, .int x25), (5, .int (bI x28)), (0, .ref (xa G 131)), (2, .int x24), (3, .int x25), (4, .int r27)]) hx hb dX10_bestPlace_65 rfl hl (by decide) rfl (fun ls hl => ?_)
            refine lv_iload hx hb dX10_bestPlace_66 (lv_at hl 5 rfl) ?_
            refine lv_istore_n (lv' := [(2, .int r27), (1, .int x25), (5, .int (bI x28)), (0, .ref (xa G 131)), (3, .int x25), (4, .int r27)]) hx hb dX10_bestPlace_68 rfl hl (by decide) rfl (fun ls hl => ?_)
            exact (OB_some hf) _ _ _ hP hS (lv_sub hl [3, 1, 0, 4] rfl)
          · have hf := (OB_f hf hc)
            refine lv_iload hx hb dX10_bestPlace_53 (lv_at hl 5 rfl) ?_
            refine lv_iload_n hx hb dX10_bestPlace_55 rfl (lv_at hl 3 rfl) ?_
            refine lv_icmp_ne (tgt := 69) hx hb dX10_bestPlace_56 (by decide) (fun hc => ?_) (fun hc => ?_)
            · have hf := (OB_f hf hc)
              exact (OB_some hf) _ _ _ hP hS (lv_sub hl [1, 2, 3, 4] rfl)
            · have hf := (OB_t hf hc)
              refine lv_iload hx hb dX10_bestPlace_59 (lv_at hl 0 rfl) ?_
              refine lv_if_eq (tgt := 69) hx hb dX10_bestPlace_61 (by decide) (fun hc => ?_) (fun hc => ?_)
              · have hf := (OB_f hf (bI_f hc))
                exact (OB_some hf) _ _ _ hP hS (lv_sub hl [1, 2, 3, 4] rfl)
              · have hf := (OB_t hf (bI_t hc))
                refine lv_iload_n hx hb dX10_bestPlace_64 rfl (lv_at hl 4 rfl) ?_
                refine lv_istore_n (lv' := [(1, .int x25), (5, .int (bI x28)), (0, .ref (xa G 131)), (2, .int x24), (3, .int x25), (4, .int r27)]) hx hb dX10_bestPlace_65 rfl hl (by decide) rfl (fun ls hl => ?_)
                refine lv_iload hx hb dX10_bestPlace_66 (lv_at hl 5 rfl) ?_
                refine lv_istore_n (lv' := [(2, .int r27), (1, .int x25), (5, .int (bI x28)), (0, .ref (xa G 131)), (3, .int x25), (4, .int r27)]) hx hb dX10_bestPlace_68 rfl hl (by decide) rfl (fun ls hl => ?_)
                exact (OB_some hf) _ _ _ hP hS (lv_sub hl [3, 1, 0, 4] rfl)
      · skip
        refine lv_icmp_ge (tgt := 44) hx hb dX10_bestPlace_37 (by decide) (fun hc => ?_) (fun hc => ?_)
        · have hf := (OB_t hf hc)
          refine lv_iconst (v := 0) hx hb dX10_bestPlace_44 (by decide) ?_
          refine W.eq (g2 := F0 m 45 ls [.int (bI false)]) rfl ?_
          exact (OB_some hf) _ _ _ hP hS (lv_sub hl [1, 2, 3, 4, 0] rfl)
        · have hf := (OB_f hf hc)
          refine lv_iconst (v := 1) hx hb dX10_bestPlace_40 (by decide) ?_
          refine lv_goto (tgt := 45) hx hb dX10_bestPlace_41 (by decide) ?_
          refine W.eq (g2 := F0 m 45 ls [.int (bI true)]) rfl ?_
          exact (OB_some hf) _ _ _ hP hS (lv_sub hl [1, 2, 3, 4, 0] rfl)
def rm_X10_told : Room := { frames := 3, cells := 0, slots := 0, locals := 69 }
set_option maxRecDepth 100000 in
set_option maxHeartbeats 8000000 in
theorem c_X10_told {l : Launch} {G : GG} {a1 : Int64} {M : Mem} {h : Int64}  {P9 : Int64 → Prop} (hf : OB (f_X10_told a1 M) P9) : Met1 l yX10_told cX10_told 3 (some .long) rm_X10_told G [.ref (xa G 131), .long a1] M h (QL0 G M h P9) := by
  unfold f_X10_told at hf
  refine xm_l0 (by decide) (Nat.le_of_ble_eq_true rfl) ?_
  intro p e s m args below meth c ls Q C hE hret hP hS hl
  have C : CallFix p m c cX10_told 3 s args TB RX10 := C
  have hx := C.1
  have hb := C.2.1
  have hl : lv_has ls 3 [(0, .ref (xa G 131)), (1, .long a1)] := hl
  refine lv_lload_n hx hb dX10_told_0 rfl (lv_at hl 1 rfl) ?_
  refine lv_aload_n hx hb dX10_told_1 rfl (lv_at hl 0 rfl) ?_
  refine gfX10_9 C hE hP dX10_told_2 ?_
  refine lv_i2l hx hb dX10_told_5 rfl ?_
  refine x_cl0 (rest := []) (x_runSN C hE hP hS ykX11_then lkX10_26 (c_X11_then (OB_bind hf)) (by decide) rfl hl.1 (Nat.le_of_ble_eq_true rfl) dX10_told_6) hS (fun r1 H locs hf hP hS => ?_)
  refine lv_aload_n hx hb dX10_told_9 rfl (lv_at hl 0 rfl) ?_
  refine x_ci0 (rest := [.long r1]) (x_runV C hE hP hS ykX10_bestPlace lkX10_32 sh131 rfl (c_X10_bestPlace (OB_bind hf)) (by decide) rfl hl.1 (Nat.le_of_ble_eq_true rfl) dX10_told_10) hS (fun r2 H locs hf hP hS => ?_)
  refine lv_i2l hx hb dX10_told_13 rfl ?_
  refine x_cl0 (rest := []) (x_runSN C hE hP hS ykX11_then lkX10_26 (c_X11_then (OB_bind hf)) (by decide) rfl hl.1 (Nat.le_of_ble_eq_true rfl) dX10_told_14) hS (fun r3 H locs hf hP hS => ?_)
  exact hret _ _ _ _ _ (OB_some hf) hP hS dX10_told_17
def rm_X11_isLand : Room := { frames := 1, cells := 0, slots := 0, locals := 21 }
set_option maxRecDepth 100000 in
set_option maxHeartbeats 8000000 in
theorem c_X11_isLand {l : Launch} {G : GG} {a0 : Int32} {M : Mem} {h : Int64}  {P9 : Bool → Prop} (hf : OB (f_X11_isLand a0) P9) : Met1 l yX11_isLand cX11_isLand 1 (some .boolean) rm_X11_isLand G [.int a0] M h (QZ0 G M h P9) := by
  unfold f_X11_isLand at hf
  refine xm_z0 (by decide) (Nat.le_of_ble_eq_true rfl) ?_
  intro p e s m args below meth c ls Q C hE hret hP hS hl
  have C : CallFix p m c cX11_isLand 1 s args TB RX11 := C
  have hx := C.1
  have hb := C.2.1
  have hl : lv_has ls 1 [(0, .int a0)] := hl
  refine lv_iload_n hx hb dX11_isLand_0 rfl (lv_at hl 0 rfl) ?_
  refine lv_bipush (v := 6) hx hb dX11_isLand_1 (by decide) ?_
  refine x_cz0 (rest := []) (x_runS C hE hP hS ykX11_within lkX11_94 (c_X11_within (OB_bind hf)) (by decide) rfl hl.1 (Nat.le_of_ble_eq_true rfl) dX11_isLand_3) hS (fun r1 H locs hf hP hS => ?_)
  exact hret _ _ _ _ _ (OB_some hf) hP hS dX11_isLand_6
def rm_X11_cell : Room := { frames := 2, cells := 0, slots := 0, locals := 47 }
set_option maxRecDepth 100000 in
set_option maxHeartbeats 8000000 in
theorem c_X11_cell {l : Launch} {G : GG} {a1 : Int32} {a2 : Int32} {M : Mem} {h : Int64}  {P9 : (Int32 × Mem) → Prop} (hf : OB (f_X11_cell a1 a2 M) P9) : Met1 l yX11_cell cX11_cell 4 (some .int) rm_X11_cell G [.ref (xa G 0), .int a1, .int a2] M h (QI1 G h P9) := by
  unfold f_X11_cell at hf
  refine xm_i1 (by decide) (Nat.le_of_ble_eq_true rfl) ?_
  intro p e s m args below meth c ls Q C hE hret hP hS hl
  have C : CallFix p m c cX11_cell 4 s args TB RX11 := C
  have hx := C.1
  have hb := C.2.1
  have hl : lv_has ls 4 [(0, .ref (xa G 0)), (1, .int a1), (2, .int a2)] := hl
  refine lv_iload_n hx hb dX11_cell_0 rfl (lv_at hl 1 rfl) ?_
  refine lv_iconst (v := -1) hx hb dX11_cell_1 (by decide) ?_
  have hj12 : ∀ (H : Heap) (locs : List Loc) (ls : Array Slot), OB (f_X11_cell_j12_0 a1 a2 M) P9 → va_P G.1 vwCl (wl G M h) H → va_S (Aw G) s.heap H locs → lv_has ls 4 [(0, .ref (xa G 0)), (1, .int a1), (2, .int a2)] → W p l e rm_X11_cell s m args below meth c H locs 0 0 Q (F0 m 12 ls []) := by
    intro  H locs ls hf hP hS hl
    refine lv_iload_n hx hb dX11_cell_12 rfl (lv_at hl 2 rfl) ?_
    refine lv_sipush (v := 128) hx hb dX11_cell_13 (by decide) ?_
    refine x_cz0 (rest := []) (x_runS C hE hP hS ykX11_within lkX11_94 (c_X11_within (OB_bind hf)) (by decide) rfl hl.1 (Nat.le_of_ble_eq_true rfl) dX11_cell_16) hS (fun r11 H locs hf hP hS => ?_)
    refine lv_if_ne (tgt := 25) hx hb dX11_cell_19 (by decide) (fun hc => ?_) (fun hc => ?_)
    · have hf := (OB_t hf (bI_t hc))
      refine lv_aload_n hx hb dX11_cell_25 rfl (lv_at hl 0 rfl) ?_
      refine gfX11_21 C hE hP dX11_cell_26 ?_
      refine lv_iload_n hx hb dX11_cell_29 rfl (lv_at hl 2 rfl) ?_
      refine x_cz0 (rest := []) (x_runV C hE hP hS ykX5_anyOn lkX11_98 sh5 rfl (c_X5_anyOn (OB_bind hf)) (by decide) rfl hl.1 (Nat.le_of_ble_eq_true rfl) dX11_cell_30) hS (fun r12 H locs hf hP hS => ?_)
      refine lv_if_eq (tgt := 39) hx hb dX11_cell_33 (by decide) (fun hc => ?_) (fun hc => ?_)
      · have hf := (OB_f hf (bI_f hc))
        refine lv_aload_n hx hb dX11_cell_39 rfl (lv_at hl 0 rfl) ?_
        refine gfX11_10 C hE hP dX11_cell_40 ?_
        refine lv_iload_n hx hb dX11_cell_43 rfl (lv_at hl 2 rfl) ?_
        refine x_ci0 (rest := []) (x_runV C hE hP hS ykX2_ownerOf lkX11_101 sh1 rfl (c_X2_ownerOf (OB_bind hf)) (by decide) rfl hl.1 (Nat.le_of_ble_eq_true rfl) dX11_cell_44) hS (fun r13 H locs hf hP hS => ?_)
        refine lv_istore_n (lv' := [(3, .int r13), (0, .ref (xa G 0)), (1, .int a1), (2, .int a2)]) hx hb dX11_cell_47 rfl hl (by decide) rfl (fun ls hl => ?_)
        refine lv_aload_n hx hb dX11_cell_48 rfl (lv_at hl 1 rfl) ?_
        refine gfX11_10 C hE hP dX11_cell_49 ?_
        refine lv_iload_n hx hb dX11_cell_52 rfl (lv_at hl 3 rfl) ?_
        refine lv_iload_n hx hb dX11_cell_53 rfl (lv_at hl 2 rfl) ?_
        refine x_cv1 (rest := []) (x_runV C hE hP hS ykX2_give lkX11_105 sh1 rfl (c_X2_give (OB_bind hf)) (by decide) rfl hl.1 (Nat.le_of_ble_eq_true rfl) dX11_cell_54) hS (fun M14 H locs hf hP hS => ?_)
        refine lv_iload_n hx hb dX11_cell_57 rfl (lv_at hl 0 rfl) ?_
        exact hret _ _ _ _ _ _ (OB_some hf) hP hS dX11_cell_58
      · have hf := (OB_t hf (bI_t hc))
        refine lv_bipush (v := -103) hx hb dX11_cell_36 (by decide) ?_
        exact hret _ _ _ _ _ _ (OB_some hf) hP hS dX11_cell_38
    · have hf := (OB_f hf (bI_f hc))
      refine lv_bipush (v := -101) hx hb dX11_cell_22 (by decide) ?_
      exact hret _ _ _ _ _ _ (OB_some hf) hP hS dX11_cell_24
  refine lv_icmp_eq (tgt := 12) hx hb dX11_cell_2 (by decide) (fun hc => ?_) (fun hc => ?_)
  · have hf := (OB_t hf hc)
    exact hj12  _ _ _ hf hP hS (lv_sub hl [0, 1, 2] rfl)
  · have hf := (OB_f hf hc)
    refine lv_iload_n hx hb dX11_cell_5 rfl (lv_at hl 1 rfl) ?_
    refine x_cz0 (rest := []) (x_runS C hE hP hS ykX11_isLand lkX11_90 (c_X11_isLand (OB_bind hf)) (by decide) rfl hl.1 (Nat.le_of_ble_eq_true rfl) dX11_cell_6) hS (fun r15 H locs hf hP hS => ?_)
    refine lv_if_eq (tgt := 22) hx hb dX11_cell_9 (by decide) (fun hc => ?_) (fun hc => ?_)
    · have hf := (OB_f hf (bI_f hc))
      refine lv_bipush (v := -101) hx hb dX11_cell_22 (by decide) ?_
      exact hret _ _ _ _ _ _ (OB_some hf) hP hS dX11_cell_24
    · have hf := (OB_t hf (bI_t hc))
      exact hj12  _ _ _ hf hP hS (lv_sub hl [0, 1, 2] rfl)
def rm_X11_run : Room := { frames := 3, cells := 0, slots := 0, locals := 74 }
set_option maxRecDepth 100000 in
set_option maxHeartbeats 8000000 in
theorem c_X11_run {l : Launch} {G : GG} {a1 : Int32} {a2 : Int32} {a3 : Int32} {a4 : Int32} {M : Mem} {h : Int64}  {P9 : (Int32 × Mem) → Prop} (hf : OB (f_X11_run a1 a2 a3 a4 M) P9) : Met1 l yX11_run cX11_run 5 (some .int) rm_X11_run G [.ref (xa G 0), .int a1, .int a2, .int a3, .int a4] M h (QI1 G h P9) := by
  unfold f_X11_run at hf
  refine xm_i1 (by decide) (Nat.le_of_ble_eq_true rfl) ?_
  intro p e s m args below meth c ls Q C hE hret hP hS hl
  have C : CallFix p m c cX11_run 5 s args TB RX11 := C
  have hx := C.1
  have hb := C.2.1
  have hl : lv_has ls 5 [(0, .ref (xa G 0)), (1, .int a1), (2, .int a2), (3, .int a3), (4, .int a4)] := hl
  refine lv_iload_n hx hb dX11_run_0 rfl (lv_at hl 1 rfl) ?_
  refine x_cz0 (rest := []) (x_runS C hE hP hS ykX11_isLand lkX11_90 (c_X11_isLand (OB_bind hf)) (by decide) rfl hl.1 (Nat.le_of_ble_eq_true rfl) dX11_run_1) hS (fun r1 H locs hf hP hS => ?_)
  refine lv_if_eq (tgt := 25) hx hb dX11_run_4 (by decide) (fun hc => ?_) (fun hc => ?_)
  · have hf := (OB_f hf (bI_f hc))
    refine lv_bipush (v := -101) hx hb dX11_run_25 (by decide) ?_
    exact hret _ _ _ _ _ _ (OB_some hf) hP hS dX11_run_27
  · have hf := (OB_t hf (bI_t hc))
    refine lv_iload_n hx hb dX11_run_7 rfl (lv_at hl 2 rfl) ?_
    refine lv_bipush (v := 8) hx hb dX11_run_8 (by decide) ?_
    refine x_cz0 (rest := []) (x_runS C hE hP hS ykX11_within lkX11_94 (c_X11_within (OB_bind hf)) (by decide) rfl hl.1 (Nat.le_of_ble_eq_true rfl) dX11_run_10) hS (fun r2 H locs hf hP hS => ?_)
    refine lv_if_eq (tgt := 25) hx hb dX11_run_13 (by decide) (fun hc => ?_) (fun hc => ?_)
    · have hf := (OB_f hf (bI_f hc))
      refine lv_bipush (v := -101) hx hb dX11_run_25 (by decide) ?_
      exact hret _ _ _ _ _ _ (OB_some hf) hP hS dX11_run_27
    · have hf := (OB_t hf (bI_t hc))
      refine lv_iload_n hx hb dX11_run_16 rfl (lv_at hl 3 rfl) ?_
      refine lv_bipush (v := 16) hx hb dX11_run_17 (by decide) ?_
      refine x_cz0 (rest := []) (x_runS C hE hP hS ykX11_within lkX11_94 (c_X11_within (OB_bind hf)) (by decide) rfl hl.1 (Nat.le_of_ble_eq_true rfl) dX11_run_19) hS (fun r3 H locs hf hP hS => ?_)
      refine lv_if_ne (tgt := 28) hx hb dX11_run_22 (by decide) (fun hc => ?_) (fun hc => ?_)
      · have hf := (OB_t hf (bI_t hc))
        refine lv_iload hx hb dX11_run_28 (lv_at hl 4 rfl) ?_
        refine lv_iconst (v := 1) hx hb dX11_run_30 (by decide) ?_
        refine lv_icmp_lt (tgt := 41) hx hb dX11_run_31 (by decide) (fun hc => ?_) (fun hc => ?_)
        · have hf := (OB_t hf hc)
          refine lv_bipush (v := -102) hx hb dX11_run_41 (by decide) ?_
          exact hret _ _ _ _ _ _ (OB_some hf) hP hS dX11_run_43
        · have hf := (OB_f hf hc)
          refine lv_iload hx hb dX11_run_34 (lv_at hl 4 rfl) ?_
          refine lv_bipush (v := 16) hx hb dX11_run_36 (by decide) ?_
          refine lv_icmp_le (tgt := 44) hx hb dX11_run_38 (by decide) (fun hc => ?_) (fun hc => ?_)
          · have hf := (OB_t hf hc)
            refine lv_aload_n hx hb dX11_run_44 rfl (lv_at hl 0 rfl) ?_
            refine gfX11_10 C hE hP dX11_run_45 ?_
            refine lv_iload_n hx hb dX11_run_48 rfl (lv_at hl 1 rfl) ?_
            refine lv_iload_n hx hb dX11_run_49 rfl (lv_at hl 2 rfl) ?_
            refine lv_iload_n hx hb dX11_run_50 rfl (lv_at hl 3 rfl) ?_
            refine lv_iload hx hb dX11_run_51 (lv_at hl 4 rfl) ?_
            refine x_ci1 (rest := []) (x_runV C hE hP hS ykX2_giveRun lkX11_109 sh1 rfl (c_X2_giveRun (OB_bind hf)) (by decide) rfl hl.1 (Nat.le_of_ble_eq_true rfl) dX11_run_53) hS (fun r4 M5 H locs hf hP hS => ?_)
            exact hret _ _ _ _ _ _ (OB_some hf) hP hS dX11_run_56
          · have hf := (OB_f hf hc)
            refine lv_bipush (v := -102) hx hb dX11_run_41 (by decide) ?_
            exact hret _ _ _ _ _ _ (OB_some hf) hP hS dX11_run_43
      · have hf := (OB_f hf (bI_f hc))
        refine lv_bipush (v := -101) hx hb dX11_run_25 (by decide) ?_
        exact hret _ _ _ _ _ _ (OB_some hf) hP hS dX11_run_27
def rm_X11_land : Room := { frames := 3, cells := 0, slots := 0, locals := 65 }
set_option maxRecDepth 100000 in
set_option maxHeartbeats 8000000 in
theorem c_X11_land {l : Launch} {G : GG} {a1 : Int32} {a2 : Int32} {M : Mem} {h : Int64}  {P9 : Int32 → Prop} (hf : OB (f_X11_land a1 a2 M) P9) : Met1 l yX11_land cX11_land 3 (some .int) rm_X11_land G [.ref (xa G 0), .int a1, .int a2] M h (QI0 G M h P9) := by
  unfold f_X11_land at hf
  refine xm_i0 (by decide) (Nat.le_of_ble_eq_true rfl) ?_
  intro p e s m args below meth c ls Q C hE hret hP hS hl
  have C : CallFix p m c cX11_land 3 s args TB RX11 := C
  have hx := C.1
  have hb := C.2.1
  have hl : lv_has ls 3 [(0, .ref (xa G 0)), (1, .int a1), (2, .int a2)] := hl
  refine lv_iload_n hx hb dX11_land_0 rfl (lv_at hl 1 rfl) ?_
  refine x_cz0 (rest := []) (x_runS C hE hP hS ykX11_isLand lkX11_90 (c_X11_isLand (OB_bind hf)) (by decide) rfl hl.1 (Nat.le_of_ble_eq_true rfl) dX11_land_1) hS (fun r1 H locs hf hP hS => ?_)
  refine lv_if_ne (tgt := 10) hx hb dX11_land_4 (by decide) (fun hc => ?_) (fun hc => ?_)
  · have hf := (OB_t hf (bI_t hc))
    refine lv_iload_n hx hb dX11_land_10 rfl (lv_at hl 2 rfl) ?_
    by_cases hs11_0 : a2 = 0
    · have hf := OB_t hf hs11_0
      refine lv_tableIn (off := 25) (tgt := 36) hx hb dX11_land_11 (by rw [hs11_0]; decide) (by rw [hs11_0]; decide) (by rw [hs11_0]; rfl) (by decide) ?_
      refine lv_aload_n hx hb dX11_land_36 rfl (lv_at hl 0 rfl) ?_
      refine gfX11_10 C hE hP dX11_land_37 ?_
      refine lv_iload_n hx hb dX11_land_40 rfl (lv_at hl 1 rfl) ?_
      refine x_ci0 (rest := []) (x_runV C hE hP hS ykX2_sizeOf lkX11_113 sh1 rfl (c_X2_sizeOf (OB_bind hf)) (by decide) rfl hl.1 (Nat.le_of_ble_eq_true rfl) dX11_land_41) hS (fun r2 H locs hf hP hS => ?_)
      exact hret _ _ _ _ _ (OB_some hf) hP hS dX11_land_44
    · have hf := OB_f hf hs11_0
      by_cases hs11_1 : a2 = 1
      · have hf := OB_t hf hs11_1
        refine lv_tableIn (off := 34) (tgt := 45) hx hb dX11_land_11 (by rw [hs11_1]; decide) (by rw [hs11_1]; decide) (by rw [hs11_1]; rfl) (by decide) ?_
        refine lv_aload_n hx hb dX11_land_45 rfl (lv_at hl 0 rfl) ?_
        refine gfX11_10 C hE hP dX11_land_46 ?_
        refine lv_iload_n hx hb dX11_land_49 rfl (lv_at hl 1 rfl) ?_
        refine x_ci0 (rest := []) (x_runV C hE hP hS ykX2_leastCellOf lkX11_116 sh1 rfl (c_X2_leastCellOf (OB_bind hf)) (by decide) rfl hl.1 (Nat.le_of_ble_eq_true rfl) dX11_land_50) hS (fun r3 H locs hf hP hS => ?_)
        exact hret _ _ _ _ _ (OB_some hf) hP hS dX11_land_53
      · have hf := OB_f hf hs11_1
        by_cases hs11_2 : a2 = 2
        · have hf := OB_t hf hs11_2
          refine lv_tableIn (off := 43) (tgt := 54) hx hb dX11_land_11 (by rw [hs11_2]; decide) (by rw [hs11_2]; decide) (by rw [hs11_2]; rfl) (by decide) ?_
          refine lv_aload_n hx hb dX11_land_54 rfl (lv_at hl 0 rfl) ?_
          refine gfX11_21 C hE hP dX11_land_55 ?_
          refine lv_iload_n hx hb dX11_land_58 rfl (lv_at hl 1 rfl) ?_
          refine x_ci0 (rest := []) (x_runV C hE hP hS ykX5_howManyOn lkX11_119 sh5 rfl (c_X5_howManyOn (OB_bind hf)) (by decide) rfl hl.1 (Nat.le_of_ble_eq_true rfl) dX11_land_59) hS (fun r4 H locs hf hP hS => ?_)
          exact hret _ _ _ _ _ (OB_some hf) hP hS dX11_land_62
        · have hf := OB_f hf hs11_2
          refine lv_tableOut (tgt := 63) hx hb dX11_land_11 (by have n0 := lv_neT hs11_0 (by decide : (0 : Int32).toInt = 0); have n1 := lv_neT hs11_1 (by decide : (1 : Int32).toInt = 1); have n2 := lv_neT hs11_2 (by decide : (2 : Int32).toInt = 2); omega) (by decide) ?_
          refine lv_bipush (v := -102) hx hb dX11_land_63 (by decide) ?_
          exact hret _ _ _ _ _ (OB_some hf) hP hS dX11_land_65
  · have hf := (OB_f hf (bI_f hc))
    refine lv_bipush (v := -101) hx hb dX11_land_7 (by decide) ?_
    exact hret _ _ _ _ _ (OB_some hf) hP hS dX11_land_9
def rm_X11_mark : Room := { frames := 1, cells := 0, slots := 0, locals := 23 }
set_option maxRecDepth 100000 in
set_option maxHeartbeats 8000000 in
theorem c_X11_mark {l : Launch} {G : GG} {a1 : Int32} {a2 : Int32} {a3 : Int32} {M : Mem} {h : Int64}  {P9 : (Int32 × Mem) → Prop} (hf : OB (f_X11_mark a1 a2 a3 M) P9) : Met1 l yX11_mark cX11_mark 4 (some .int) rm_X11_mark G [.ref (xa G 0), .int a1, .int a2, .int a3] M h (QI1 G h P9) := by
  unfold f_X11_mark at hf
  refine xm_i1 (by decide) (Nat.le_of_ble_eq_true rfl) ?_
  intro p e s m args below meth c ls Q C hE hret hP hS hl
  have C : CallFix p m c cX11_mark 4 s args TB RX11 := C
  have hx := C.1
  have hb := C.2.1
  have hl : lv_has ls 4 [(0, .ref (xa G 0)), (1, .int a1), (2, .int a2), (3, .int a3)] := hl
  refine lv_iload_n hx hb dX11_mark_0 rfl (lv_at hl 2 rfl) ?_
  refine lv_sipush (v := 128) hx hb dX11_mark_1 (by decide) ?_
  refine x_cz0 (rest := []) (x_runS C hE hP hS ykX11_within lkX11_94 (c_X11_within (OB_bind hf)) (by decide) rfl hl.1 (Nat.le_of_ble_eq_true rfl) dX11_mark_4) hS (fun r1 H locs hf hP hS => ?_)
  refine lv_if_eq (tgt := 22) hx hb dX11_mark_7 (by decide) (fun hc => ?_) (fun hc => ?_)
  · have hf := (OB_f hf (bI_f hc))
    refine lv_bipush (v := -101) hx hb dX11_mark_22 (by decide) ?_
    exact hret _ _ _ _ _ _ (OB_some hf) hP hS dX11_mark_24
  · have hf := (OB_t hf (bI_t hc))
    refine lv_aload_n hx hb dX11_mark_10 rfl (lv_at hl 0 rfl) ?_
    refine gfX11_10 C hE hP dX11_mark_11 ?_
    refine lv_iload_n hx hb dX11_mark_14 rfl (lv_at hl 2 rfl) ?_
    refine x_ci0 (rest := []) (x_runV C hE hP hS ykX2_ownerOf lkX11_101 sh1 rfl (c_X2_ownerOf (OB_bind hf)) (by decide) rfl hl.1 (Nat.le_of_ble_eq_true rfl) dX11_mark_15) hS (fun r2 H locs hf hP hS => ?_)
    refine lv_iconst (v := -1) hx hb dX11_mark_18 (by decide) ?_
    refine lv_icmp_ne (tgt := 25) hx hb dX11_mark_19 (by decide) (fun hc => ?_) (fun hc => ?_)
    · have hf := (OB_f hf hc)
      refine lv_iload_n hx hb dX11_mark_25 rfl (lv_at hl 1 rfl) ?_
      refine lv_bipush (v := 6) hx hb dX11_mark_26 (by decide) ?_
      refine x_cz0 (rest := []) (x_runS C hE hP hS ykX11_within lkX11_94 (c_X11_within (OB_bind hf)) (by decide) rfl hl.1 (Nat.le_of_ble_eq_true rfl) dX11_mark_28) hS (fun r3 H locs hf hP hS => ?_)
      refine lv_if_eq (tgt := 43) hx hb dX11_mark_31 (by decide) (fun hc => ?_) (fun hc => ?_)
      · have hf := (OB_f hf (bI_f hc))
        refine lv_bipush (v := -102) hx hb dX11_mark_43 (by decide) ?_
        exact hret _ _ _ _ _ _ (OB_some hf) hP hS dX11_mark_45
      · have hf := (OB_t hf (bI_t hc))
        refine lv_iload_n hx hb dX11_mark_34 rfl (lv_at hl 3 rfl) ?_
        refine lv_bipush (v := 16) hx hb dX11_mark_35 (by decide) ?_
        refine x_cz0 (rest := []) (x_runS C hE hP hS ykX11_within lkX11_94 (c_X11_within (OB_bind hf)) (by decide) rfl hl.1 (Nat.le_of_ble_eq_true rfl) dX11_mark_37) hS (fun r4 H locs hf hP hS => ?_)
        refine lv_if_ne (tgt := 46) hx hb dX11_mark_40 (by decide) (fun hc => ?_) (fun hc => ?_)
        · have hf := (OB_t hf (bI_t hc))
          refine lv_aload_n hx hb dX11_mark_46 rfl (lv_at hl 0 rfl) ?_
          refine gfX11_21 C hE hP dX11_mark_47 ?_
          refine x_cz0 (rest := []) (x_runV C hE hP hS ykX5_isFull lkX11_122 sh5 rfl (c_X5_isFull (OB_bind hf)) (by decide) rfl hl.1 (Nat.le_of_ble_eq_true rfl) dX11_mark_50) hS (fun r5 H locs hf hP hS => ?_)
          refine xj (fun (zz : (Int32 × Mem)) => match zz with | (x10, M11) => ∀ (H : Heap) (locs : List Loc) (ls : Array Slot), va_P G.1 vwCl (wl G M11 h) H → va_S (Aw G) s.heap H locs → lv_has ls 4 [] → W p l e rm_X11_mark s m args below meth c H locs 0 0 Q (F0 m 71 ls [.int x10])) hf ?_ (fun hf => ?_)
          · rintro ⟨x10, M11⟩ hf H locs ls hP hS hl
            exact hret _ _ _ _ _ _ (OB_some hf) hP hS dX11_mark_71
          · skip
            refine lv_if_eq (tgt := 61) hx hb dX11_mark_53 (by decide) (fun hc => ?_) (fun hc => ?_)
            · have hf := (OB_f hf (bI_f hc))
              refine lv_aload_n hx hb dX11_mark_61 rfl (lv_at hl 0 rfl) ?_
              refine gfX11_21 C hE hP dX11_mark_62 ?_
              refine lv_iload_n hx hb dX11_mark_65 rfl (lv_at hl 1 rfl) ?_
              refine lv_iload_n hx hb dX11_mark_66 rfl (lv_at hl 2 rfl) ?_
              refine lv_iload_n hx hb dX11_mark_67 rfl (lv_at hl 3 rfl) ?_
              refine x_ci1 (rest := []) (x_runV C hE hP hS ykX5_add lkX11_126 sh5 rfl (c_X5_add (OB_bind hf)) (by decide) rfl hl.1 (Nat.le_of_ble_eq_true rfl) dX11_mark_68) hS (fun r12 M13 H locs hf hP hS => ?_)
              exact (OB_some hf) _ _ _ hP hS (lv_sub hl [] rfl)
            · have hf := (OB_t hf (bI_t hc))
              refine lv_bipush (v := -104) hx hb dX11_mark_56 (by decide) ?_
              refine lv_goto (tgt := 71) hx hb dX11_mark_58 (by decide) ?_
              exact (OB_some hf) _ _ _ hP hS (lv_sub hl [] rfl)
        · have hf := (OB_f hf (bI_f hc))
          refine lv_bipush (v := -102) hx hb dX11_mark_43 (by decide) ?_
          exact hret _ _ _ _ _ _ (OB_some hf) hP hS dX11_mark_45
    · have hf := (OB_t hf hc)
      refine lv_bipush (v := -101) hx hb dX11_mark_22 (by decide) ?_
      exact hret _ _ _ _ _ _ (OB_some hf) hP hS dX11_mark_24
def rm_X11_as : Room := { frames := 1, cells := 0, slots := 0, locals := 22 }
set_option maxRecDepth 100000 in
set_option maxHeartbeats 8000000 in
theorem c_X11_as {l : Launch} {G : GG} {a1 : Int32} {a2 : Int32} {M : Mem} {h : Int64}  {P9 : Int32 → Prop} (hf : OB (f_X11_as a1 a2 M) P9) : Met1 l yX11_as cX11_as 3 (some .int) rm_X11_as G [.ref (xa G 0), .int a1, .int a2] M h (QI0 G M h P9) := by
  unfold f_X11_as at hf
  refine xm_i0 (by decide) (Nat.le_of_ble_eq_true rfl) ?_
  intro p e s m args below meth c ls Q C hE hret hP hS hl
  have C : CallFix p m c cX11_as 3 s args TB RX11 := C
  have hx := C.1
  have hb := C.2.1
  have hl : lv_has ls 3 [(0, .ref (xa G 0)), (1, .int a1), (2, .int a2)] := hl
  refine lv_iload_n hx hb dX11_as_0 rfl (lv_at hl 1 rfl) ?_
  refine lv_aload_n hx hb dX11_as_1 rfl (lv_at hl 0 rfl) ?_
  refine gfX11_21 C hE hP dX11_as_2 ?_
  refine x_ci0 (rest := [.int a1]) (x_runV C hE hP hS ykX5_size lkX11_130 sh5 rfl (c_X5_size (OB_bind hf)) (by decide) rfl hl.1 (Nat.le_of_ble_eq_true rfl) dX11_as_5) hS (fun r1 H locs hf hP hS => ?_)
  refine x_cz0 (rest := []) (x_runS C hE hP hS ykX11_within lkX11_94 (c_X11_within (OB_bind hf)) (by decide) rfl hl.1 (Nat.le_of_ble_eq_true rfl) dX11_as_8) hS (fun r2 H locs hf hP hS => ?_)
  refine lv_if_ne (tgt := 17) hx hb dX11_as_11 (by decide) (fun hc => ?_) (fun hc => ?_)
  · have hf := (OB_t hf (bI_t hc))
    refine lv_iload_n hx hb dX11_as_17 rfl (lv_at hl 2 rfl) ?_
    refine lv_bipush (v := 6) hx hb dX11_as_18 (by decide) ?_
    refine x_cz0 (rest := []) (x_runS C hE hP hS ykX11_within lkX11_94 (c_X11_within (OB_bind hf)) (by decide) rfl hl.1 (Nat.le_of_ble_eq_true rfl) dX11_as_20) hS (fun r3 H locs hf hP hS => ?_)
    refine lv_if_ne (tgt := 29) hx hb dX11_as_23 (by decide) (fun hc => ?_) (fun hc => ?_)
    · have hf := (OB_t hf (bI_t hc))
      refine lv_aload_n hx hb dX11_as_29 rfl (lv_at hl 0 rfl) ?_
      refine gfX11_21 C hE hP dX11_as_30 ?_
      refine lv_iload_n hx hb dX11_as_33 rfl (lv_at hl 1 rfl) ?_
      refine lv_iload_n hx hb dX11_as_34 rfl (lv_at hl 2 rfl) ?_
      refine x_cz0 (rest := []) (x_runV C hE hP hS ykX5_isOf lkX11_134 sh5 rfl (c_X5_isOf (OB_bind hf)) (by decide) rfl hl.1 (Nat.le_of_ble_eq_true rfl) dX11_as_35) hS (fun r4 H locs hf hP hS => ?_)
      refine xj (fun (x5 : Int32) => ∀ (H : Heap) (locs : List Loc) (ls : Array Slot), va_P G.1 vwCl (wl G M h) H → va_S (Aw G) s.heap H locs → lv_has ls 3 [] → W p l e rm_X11_as s m args below meth c H locs 0 0 Q (F0 m 46 ls [.int x5])) hf ?_ (fun hf => ?_)
      · rintro x5 hf H locs ls hP hS hl
        exact hret _ _ _ _ _ (OB_some hf) hP hS dX11_as_46
      · skip
        refine lv_if_eq (tgt := 45) hx hb dX11_as_38 (by decide) (fun hc => ?_) (fun hc => ?_)
        · have hf := (OB_f hf (bI_f hc))
          refine lv_iconst (v := -1) hx hb dX11_as_45 (by decide) ?_
          exact (OB_some hf) _ _ _ hP hS (lv_sub hl [] rfl)
        · have hf := (OB_t hf (bI_t hc))
          refine lv_iload_n hx hb dX11_as_41 rfl (lv_at hl 1 rfl) ?_
          refine lv_goto (tgt := 46) hx hb dX11_as_42 (by decide) ?_
          exact (OB_some hf) _ _ _ hP hS (lv_sub hl [] rfl)
    · have hf := (OB_f hf (bI_f hc))
      refine lv_bipush (v := -102) hx hb dX11_as_26 (by decide) ?_
      exact hret _ _ _ _ _ (OB_some hf) hP hS dX11_as_28
  · have hf := (OB_f hf (bI_f hc))
    refine lv_bipush (v := -101) hx hb dX11_as_14 (by decide) ?_
    exact hret _ _ _ _ _ (OB_some hf) hP hS dX11_as_16
def rm_X11_about : Room := { frames := 1, cells := 0, slots := 0, locals := 21 }
set_option maxRecDepth 100000 in
set_option maxHeartbeats 8000000 in
theorem c_X11_about {l : Launch} {G : GG} {a1 : Int32} {a2 : Int32} {M : Mem} {h : Int64}  {P9 : Int32 → Prop} (hf : OB (f_X11_about a1 a2 M) P9) : Met1 l yX11_about cX11_about 3 (some .int) rm_X11_about G [.ref (xa G 0), .int a1, .int a2] M h (QI0 G M h P9) := by
  unfold f_X11_about at hf
  refine xm_i0 (by decide) (Nat.le_of_ble_eq_true rfl) ?_
  intro p e s m args below meth c ls Q C hE hret hP hS hl
  have C : CallFix p m c cX11_about 3 s args TB RX11 := C
  have hx := C.1
  have hb := C.2.1
  have hl : lv_has ls 3 [(0, .ref (xa G 0)), (1, .int a1), (2, .int a2)] := hl
  refine lv_iload_n hx hb dX11_about_0 rfl (lv_at hl 1 rfl) ?_
  refine lv_aload_n hx hb dX11_about_1 rfl (lv_at hl 0 rfl) ?_
  refine gfX11_21 C hE hP dX11_about_2 ?_
  refine x_ci0 (rest := [.int a1]) (x_runV C hE hP hS ykX5_size lkX11_130 sh5 rfl (c_X5_size (OB_bind hf)) (by decide) rfl hl.1 (Nat.le_of_ble_eq_true rfl) dX11_about_5) hS (fun r1 H locs hf hP hS => ?_)
  refine x_cz0 (rest := []) (x_runS C hE hP hS ykX11_within lkX11_94 (c_X11_within (OB_bind hf)) (by decide) rfl hl.1 (Nat.le_of_ble_eq_true rfl) dX11_about_8) hS (fun r2 H locs hf hP hS => ?_)
  refine lv_if_ne (tgt := 17) hx hb dX11_about_11 (by decide) (fun hc => ?_) (fun hc => ?_)
  · have hf := (OB_t hf (bI_t hc))
    refine lv_iload_n hx hb dX11_about_17 rfl (lv_at hl 2 rfl) ?_
    by_cases hs18_0 : a2 = 0
    · have hf := OB_t hf hs18_0
      refine lv_tableIn (off := 30) (tgt := 48) hx hb dX11_about_18 (by rw [hs18_0]; decide) (by rw [hs18_0]; decide) (by rw [hs18_0]; rfl) (by decide) ?_
      refine lv_aload_n hx hb dX11_about_48 rfl (lv_at hl 0 rfl) ?_
      refine gfX11_21 C hE hP dX11_about_49 ?_
      refine lv_iload_n hx hb dX11_about_52 rfl (lv_at hl 1 rfl) ?_
      refine x_ci0 (rest := []) (x_runV C hE hP hS ykX5_kindOf lkX11_137 sh5 rfl (c_X5_kindOf (OB_bind hf)) (by decide) rfl hl.1 (Nat.le_of_ble_eq_true rfl) dX11_about_53) hS (fun r3 H locs hf hP hS => ?_)
      exact hret _ _ _ _ _ (OB_some hf) hP hS dX11_about_56
    · have hf := OB_f hf hs18_0
      by_cases hs18_1 : a2 = 1
      · have hf := OB_t hf hs18_1
        refine lv_tableIn (off := 39) (tgt := 57) hx hb dX11_about_18 (by rw [hs18_1]; decide) (by rw [hs18_1]; decide) (by rw [hs18_1]; rfl) (by decide) ?_
        refine lv_aload_n hx hb dX11_about_57 rfl (lv_at hl 0 rfl) ?_
        refine gfX11_21 C hE hP dX11_about_58 ?_
        refine lv_iload_n hx hb dX11_about_61 rfl (lv_at hl 1 rfl) ?_
        refine x_ci0 (rest := []) (x_runV C hE hP hS ykX5_cellOf lkX11_140 sh5 rfl (c_X5_cellOf (OB_bind hf)) (by decide) rfl hl.1 (Nat.le_of_ble_eq_true rfl) dX11_about_62) hS (fun r4 H locs hf hP hS => ?_)
        exact hret _ _ _ _ _ (OB_some hf) hP hS dX11_about_65
      · have hf := OB_f hf hs18_1
        by_cases hs18_2 : a2 = 2
        · have hf := OB_t hf hs18_2
          refine lv_tableIn (off := 48) (tgt := 66) hx hb dX11_about_18 (by rw [hs18_2]; decide) (by rw [hs18_2]; decide) (by rw [hs18_2]; rfl) (by decide) ?_
          refine lv_aload_n hx hb dX11_about_66 rfl (lv_at hl 0 rfl) ?_
          refine gfX11_21 C hE hP dX11_about_67 ?_
          refine lv_iload_n hx hb dX11_about_70 rfl (lv_at hl 1 rfl) ?_
          refine x_ci0 (rest := []) (x_runV C hE hP hS ykX5_numberOf lkX11_143 sh5 rfl (c_X5_numberOf (OB_bind hf)) (by decide) rfl hl.1 (Nat.le_of_ble_eq_true rfl) dX11_about_71) hS (fun r5 H locs hf hP hS => ?_)
          exact hret _ _ _ _ _ (OB_some hf) hP hS dX11_about_74
        · have hf := OB_f hf hs18_2
          by_cases hs18_3 : a2 = 3
          · have hf := OB_t hf hs18_3
            refine lv_tableIn (off := 57) (tgt := 75) hx hb dX11_about_18 (by rw [hs18_3]; decide) (by rw [hs18_3]; decide) (by rw [hs18_3]; rfl) (by decide) ?_
            refine lv_aload_n hx hb dX11_about_75 rfl (lv_at hl 0 rfl) ?_
            refine gfX11_21 C hE hP dX11_about_76 ?_
            refine lv_iload_n hx hb dX11_about_79 rfl (lv_at hl 1 rfl) ?_
            refine x_ci0 (rest := []) (x_runV C hE hP hS ykX5_weightOf lkX11_146 sh5 rfl (c_X5_weightOf (OB_bind hf)) (by decide) rfl hl.1 (Nat.le_of_ble_eq_true rfl) dX11_about_80) hS (fun r6 H locs hf hP hS => ?_)
            exact hret _ _ _ _ _ (OB_some hf) hP hS dX11_about_83
          · have hf := OB_f hf hs18_3
            refine lv_tableOut (tgt := 84) hx hb dX11_about_18 (by have n0 := lv_neT hs18_0 (by decide : (0 : Int32).toInt = 0); have n1 := lv_neT hs18_1 (by decide : (1 : Int32).toInt = 1); have n2 := lv_neT hs18_2 (by decide : (2 : Int32).toInt = 2); have n3 := lv_neT hs18_3 (by decide : (3 : Int32).toInt = 3); omega) (by decide) ?_
            refine lv_bipush (v := -102) hx hb dX11_about_84 (by decide) ?_
            exact hret _ _ _ _ _ (OB_some hf) hP hS dX11_about_86
  · have hf := (OB_f hf (bI_f hc))
    refine lv_bipush (v := -101) hx hb dX11_about_14 (by decide) ?_
    exact hret _ _ _ _ _ (OB_some hf) hP hS dX11_about_16
def rm_X11_goesOn : Room := { frames := 2, cells := 0, slots := 0, locals := 43 }
set_option maxRecDepth 100000 in
set_option maxHeartbeats 8000000 in
theorem c_X11_goesOn {l : Launch} {G : GG} {a1 : Int32} {a2 : Int32} {M : Mem} {h : Int64}  {P9 : Int32 → Prop} (hf : OB (f_X11_goesOn a1 a2 M) P9) : Met1 l yX11_goesOn cX11_goesOn 3 (some .int) rm_X11_goesOn G [.ref (xa G 0), .int a1, .int a2] M h (QI0 G M h P9) := by
  unfold f_X11_goesOn at hf
  refine xm_i0 (by decide) (Nat.le_of_ble_eq_true rfl) ?_
  intro p e s m args below meth c ls Q C hE hret hP hS hl
  have C : CallFix p m c cX11_goesOn 3 s args TB RX11 := C
  have hx := C.1
  have hb := C.2.1
  have hl : lv_has ls 3 [(0, .ref (xa G 0)), (1, .int a1), (2, .int a2)] := hl
  refine lv_iload_n hx hb dX11_goesOn_0 rfl (lv_at hl 1 rfl) ?_
  refine lv_aload_n hx hb dX11_goesOn_1 rfl (lv_at hl 0 rfl) ?_
  refine gfX11_21 C hE hP dX11_goesOn_2 ?_
  refine x_ci0 (rest := [.int a1]) (x_runV C hE hP hS ykX5_size lkX11_130 sh5 rfl (c_X5_size (OB_bind hf)) (by decide) rfl hl.1 (Nat.le_of_ble_eq_true rfl) dX11_goesOn_5) hS (fun r1 H locs hf hP hS => ?_)
  refine x_cz0 (rest := []) (x_runS C hE hP hS ykX11_within lkX11_94 (c_X11_within (OB_bind hf)) (by decide) rfl hl.1 (Nat.le_of_ble_eq_true rfl) dX11_goesOn_8) hS (fun r2 H locs hf hP hS => ?_)
  refine lv_if_eq (tgt := 28) hx hb dX11_goesOn_11 (by decide) (fun hc => ?_) (fun hc => ?_)
  · have hf := (OB_f hf (bI_f hc))
    refine lv_bipush (v := -101) hx hb dX11_goesOn_28 (by decide) ?_
    exact hret _ _ _ _ _ (OB_some hf) hP hS dX11_goesOn_30
  · have hf := (OB_t hf (bI_t hc))
    refine lv_iload_n hx hb dX11_goesOn_14 rfl (lv_at hl 2 rfl) ?_
    refine lv_aload_n hx hb dX11_goesOn_15 rfl (lv_at hl 0 rfl) ?_
    refine gfX11_21 C hE hP dX11_goesOn_16 ?_
    refine x_ci0 (rest := [.int a2]) (x_runV C hE hP hS ykX5_size lkX11_130 sh5 rfl (c_X5_size (OB_bind hf)) (by decide) rfl hl.1 (Nat.le_of_ble_eq_true rfl) dX11_goesOn_19) hS (fun r3 H locs hf hP hS => ?_)
    refine x_cz0 (rest := []) (x_runS C hE hP hS ykX11_within lkX11_94 (c_X11_within (OB_bind hf)) (by decide) rfl hl.1 (Nat.le_of_ble_eq_true rfl) dX11_goesOn_22) hS (fun r4 H locs hf hP hS => ?_)
    refine lv_if_ne (tgt := 31) hx hb dX11_goesOn_25 (by decide) (fun hc => ?_) (fun hc => ?_)
    · have hf := (OB_t hf (bI_t hc))
      refine lv_aload_n hx hb dX11_goesOn_31 rfl (lv_at hl 0 rfl) ?_
      refine gfX11_21 C hE hP dX11_goesOn_32 ?_
      refine lv_iload_n hx hb dX11_goesOn_35 rfl (lv_at hl 1 rfl) ?_
      refine lv_iload_n hx hb dX11_goesOn_36 rfl (lv_at hl 2 rfl) ?_
      refine x_cz0 (rest := []) (x_runV C hE hP hS ykX5_leadsInto lkX11_149 sh5 rfl (c_X5_leadsInto (OB_bind hf)) (by decide) rfl hl.1 (Nat.le_of_ble_eq_true rfl) dX11_goesOn_37) hS (fun r5 H locs hf hP hS => ?_)
      refine xj (fun (x6 : Bool) => ∀ (H : Heap) (locs : List Loc) (ls : Array Slot), va_P G.1 vwCl (wl G M h) H → va_S (Aw G) s.heap H locs → lv_has ls 3 [] → W p l e rm_X11_goesOn s m args below meth c H locs 0 0 Q (F0 m 48 ls [.int (bI x6)])) hf ?_ (fun hf => ?_)
      · rintro x6 hf H locs ls hP hS hl
        exact hret _ _ _ _ _ (OB_some hf) hP hS dX11_goesOn_48
      · skip
        refine lv_if_eq (tgt := 47) hx hb dX11_goesOn_40 (by decide) (fun hc => ?_) (fun hc => ?_)
        · have hf := (OB_f hf (bI_f hc))
          refine lv_iconst (v := 0) hx hb dX11_goesOn_47 (by decide) ?_
          refine W.eq (g2 := F0 m 48 ls [.int (bI false)]) rfl ?_
          exact (OB_some hf) _ _ _ hP hS (lv_sub hl [] rfl)
        · have hf := (OB_t hf (bI_t hc))
          refine lv_iconst (v := 1) hx hb dX11_goesOn_43 (by decide) ?_
          refine lv_goto (tgt := 48) hx hb dX11_goesOn_44 (by decide) ?_
          refine W.eq (g2 := F0 m 48 ls [.int (bI true)]) rfl ?_
          exact (OB_some hf) _ _ _ hP hS (lv_sub hl [] rfl)
    · have hf := (OB_f hf (bI_f hc))
      refine lv_bipush (v := -101) hx hb dX11_goesOn_28 (by decide) ?_
      exact hret _ _ _ _ _ (OB_some hf) hP hS dX11_goesOn_30
def rm_X11_drop : Room := { frames := 1, cells := 0, slots := 0, locals := 20 }
set_option maxRecDepth 100000 in
set_option maxHeartbeats 8000000 in
theorem c_X11_drop {l : Launch} {G : GG}  {M : Mem} {h : Int64}  {P9 : (Int32 × Mem) → Prop} (hf : OB (f_X11_drop M) P9) : Met1 l yX11_drop cX11_drop 1 (some .int) rm_X11_drop G [.ref (xa G 0)] M h (QI1 G h P9) := by
  unfold f_X11_drop at hf
  refine xm_i1 (by decide) (Nat.le_of_ble_eq_true rfl) ?_
  intro p e s m args below meth c ls Q C hE hret hP hS hl
  have C : CallFix p m c cX11_drop 1 s args TB RX11 := C
  have hx := C.1
  have hb := C.2.1
  have hl : lv_has ls 1 [(0, .ref (xa G 0))] := hl
  refine lv_aload_n hx hb dX11_drop_0 rfl (lv_at hl 0 rfl) ?_
  refine gfX11_21 C hE hP dX11_drop_1 ?_
  refine x_ci0 (rest := []) (x_runV C hE hP hS ykX5_size lkX11_130 sh5 rfl (c_X5_size (OB_bind hf)) (by decide) rfl hl.1 (Nat.le_of_ble_eq_true rfl) dX11_drop_4) hS (fun r1 H locs hf hP hS => ?_)
  refine xj (fun (zz : (Int32 × Mem)) => match zz with | (x6, M7) => ∀ (H : Heap) (locs : List Loc) (ls : Array Slot), va_P G.1 vwCl (wl G M7 h) H → va_S (Aw G) s.heap H locs → lv_has ls 1 [] → W p l e rm_X11_drop s m args below meth c H locs 0 0 Q (F0 m 22 ls [.int x6])) hf ?_ (fun hf => ?_)
  · rintro ⟨x6, M7⟩ hf H locs ls hP hS hl
    exact hret _ _ _ _ _ _ (OB_some hf) hP hS dX11_drop_22
  · skip
    refine lv_if_ne (tgt := 15) hx hb dX11_drop_7 (by decide) (fun hc => ?_) (fun hc => ?_)
    · have hf := (OB_f hf hc)
      refine lv_aload_n hx hb dX11_drop_15 rfl (lv_at hl 0 rfl) ?_
      refine gfX11_21 C hE hP dX11_drop_16 ?_
      refine x_ci1 (rest := []) (x_runV C hE hP hS ykX5_removeLast lkX11_152 sh5 rfl (c_X5_removeLast (OB_bind hf)) (by decide) rfl hl.1 (Nat.le_of_ble_eq_true rfl) dX11_drop_19) hS (fun r8 M9 H locs hf hP hS => ?_)
      exact (OB_some hf) _ _ _ hP hS (lv_sub hl [] rfl)
    · have hf := (OB_t hf hc)
      refine lv_bipush (v := -103) hx hb dX11_drop_10 (by decide) ?_
      refine lv_goto (tgt := 22) hx hb dX11_drop_12 (by decide) ?_
      exact (OB_some hf) _ _ _ hP hS (lv_sub hl [] rfl)
def rm_X11_areTwoLands : Room := { frames := 2, cells := 0, slots := 0, locals := 41 }
set_option maxRecDepth 100000 in
set_option maxHeartbeats 8000000 in
theorem c_X11_areTwoLands {l : Launch} {G : GG} {a0 : Int32} {a1 : Int32} {M : Mem} {h : Int64}  {P9 : Bool → Prop} (hf : OB (f_X11_areTwoLands a0 a1) P9) : Met1 l yX11_areTwoLands cX11_areTwoLands 2 (some .boolean) rm_X11_areTwoLands G [.int a0, .int a1] M h (QZ0 G M h P9) := by
  unfold f_X11_areTwoLands at hf
  refine xm_z0 (by decide) (Nat.le_of_ble_eq_true rfl) ?_
  intro p e s m args below meth c ls Q C hE hret hP hS hl
  have C : CallFix p m c cX11_areTwoLands 2 s args TB RX11 := C
  have hx := C.1
  have hb := C.2.1
  have hl : lv_has ls 2 [(0, .int a0), (1, .int a1)] := hl
  refine lv_iload_n hx hb dX11_areTwoLands_0 rfl (lv_at hl 0 rfl) ?_
  refine x_cz0 (rest := []) (x_runS C hE hP hS ykX11_isLand lkX11_90 (c_X11_isLand (OB_bind hf)) (by decide) rfl hl.1 (Nat.le_of_ble_eq_true rfl) dX11_areTwoLands_1) hS (fun r1 H locs hf hP hS => ?_)
  refine xj (fun (x4 : Bool) => ∀ (H : Heap) (locs : List Loc) (ls : Array Slot), va_P G.1 vwCl (wl G M h) H → va_S (Aw G) s.heap H locs → lv_has ls 2 [] → W p l e rm_X11_areTwoLands s m args below meth c H locs 0 0 Q (F0 m 24 ls [.int (bI x4)])) hf ?_ (fun hf => ?_)
  · rintro x4 hf H locs ls hP hS hl
    exact hret _ _ _ _ _ (OB_some hf) hP hS dX11_areTwoLands_24
  · skip
    refine lv_if_eq (tgt := 23) hx hb dX11_areTwoLands_4 (by decide) (fun hc => ?_) (fun hc => ?_)
    · have hf := (OB_f hf (bI_f hc))
      refine lv_iconst (v := 0) hx hb dX11_areTwoLands_23 (by decide) ?_
      refine W.eq (g2 := F0 m 24 ls [.int (bI false)]) rfl ?_
      exact (OB_some hf) _ _ _ hP hS (lv_sub hl [] rfl)
    · have hf := (OB_t hf (bI_t hc))
      refine lv_iload_n hx hb dX11_areTwoLands_7 rfl (lv_at hl 1 rfl) ?_
      refine x_cz0 (rest := []) (x_runS C hE hP hS ykX11_isLand lkX11_90 (c_X11_isLand (OB_bind hf)) (by decide) rfl hl.1 (Nat.le_of_ble_eq_true rfl) dX11_areTwoLands_8) hS (fun r5 H locs hf hP hS => ?_)
      refine lv_if_eq (tgt := 23) hx hb dX11_areTwoLands_11 (by decide) (fun hc => ?_) (fun hc => ?_)
      · have hf := (OB_f hf (bI_f hc))
        refine lv_iconst (v := 0) hx hb dX11_areTwoLands_23 (by decide) ?_
        refine W.eq (g2 := F0 m 24 ls [.int (bI false)]) rfl ?_
        exact (OB_some hf) _ _ _ hP hS (lv_sub hl [] rfl)
      · have hf := (OB_t hf (bI_t hc))
        refine lv_iload_n hx hb dX11_areTwoLands_14 rfl (lv_at hl 0 rfl) ?_
        refine lv_iload_n hx hb dX11_areTwoLands_15 rfl (lv_at hl 1 rfl) ?_
        refine lv_icmp_eq (tgt := 23) hx hb dX11_areTwoLands_16 (by decide) (fun hc => ?_) (fun hc => ?_)
        · have hf := (OB_t hf hc)
          refine lv_iconst (v := 0) hx hb dX11_areTwoLands_23 (by decide) ?_
          refine W.eq (g2 := F0 m 24 ls [.int (bI false)]) rfl ?_
          exact (OB_some hf) _ _ _ hP hS (lv_sub hl [] rfl)
        · have hf := (OB_f hf hc)
          refine lv_iconst (v := 1) hx hb dX11_areTwoLands_19 (by decide) ?_
          refine lv_goto (tgt := 24) hx hb dX11_areTwoLands_20 (by decide) ?_
          refine W.eq (g2 := F0 m 24 ls [.int (bI true)]) rfl ?_
          exact (OB_some hf) _ _ _ hP hS (lv_sub hl [] rfl)
def rm_X11_isPlace : Room := { frames := 1, cells := 0, slots := 0, locals := 21 }
set_option maxRecDepth 100000 in
set_option maxHeartbeats 8000000 in
theorem c_X11_isPlace {l : Launch} {G : GG} {a0 : Int32} {a1 : Int32} {M : Mem} {h : Int64}  {P9 : Bool → Prop} (hf : OB (f_X11_isPlace a0 a1) P9) : Met1 l yX11_isPlace cX11_isPlace 2 (some .boolean) rm_X11_isPlace G [.int a0, .int a1] M h (QZ0 G M h P9) := by
  unfold f_X11_isPlace at hf
  refine xm_z0 (by decide) (Nat.le_of_ble_eq_true rfl) ?_
  intro p e s m args below meth c ls Q C hE hret hP hS hl
  have C : CallFix p m c cX11_isPlace 2 s args TB RX11 := C
  have hx := C.1
  have hb := C.2.1
  have hl : lv_has ls 2 [(0, .int a0), (1, .int a1)] := hl
  refine lv_iload_n hx hb dX11_isPlace_0 rfl (lv_at hl 0 rfl) ?_
  refine lv_bipush (v := -7) hx hb dX11_isPlace_1 (by decide) ?_
  refine xj (fun (x3 : Bool) => ∀ (H : Heap) (locs : List Loc) (ls : Array Slot), va_P G.1 vwCl (wl G M h) H → va_S (Aw G) s.heap H locs → lv_has ls 2 [] → W p l e rm_X11_isPlace s m args below meth c H locs 0 0 Q (F0 m 26 ls [.int (bI x3)])) hf ?_ (fun hf => ?_)
  · rintro x3 hf H locs ls hP hS hl
    exact hret _ _ _ _ _ (OB_some hf) hP hS dX11_isPlace_26
  · skip
    refine lv_icmp_lt (tgt := 25) hx hb dX11_isPlace_3 (by decide) (fun hc => ?_) (fun hc => ?_)
    · have hf := (OB_t hf hc)
      refine lv_iconst (v := 0) hx hb dX11_isPlace_25 (by decide) ?_
      refine W.eq (g2 := F0 m 26 ls [.int (bI false)]) rfl ?_
      exact (OB_some hf) _ _ _ hP hS (lv_sub hl [] rfl)
    · have hf := (OB_f hf hc)
      refine lv_iload_n hx hb dX11_isPlace_6 rfl (lv_at hl 0 rfl) ?_
      refine lv_bipush (v := 7) hx hb dX11_isPlace_7 (by decide) ?_
      refine lv_icmp_gt (tgt := 25) hx hb dX11_isPlace_9 (by decide) (fun hc => ?_) (fun hc => ?_)
      · have hf := (OB_t hf hc)
        refine lv_iconst (v := 0) hx hb dX11_isPlace_25 (by decide) ?_
        refine W.eq (g2 := F0 m 26 ls [.int (bI false)]) rfl ?_
        exact (OB_some hf) _ _ _ hP hS (lv_sub hl [] rfl)
      · have hf := (OB_f hf hc)
        refine lv_iload_n hx hb dX11_isPlace_12 rfl (lv_at hl 1 rfl) ?_
        refine lv_bipush (v := 16) hx hb dX11_isPlace_13 (by decide) ?_
        refine x_cz0 (rest := []) (x_runS C hE hP hS ykX11_within lkX11_94 (c_X11_within (OB_bind hf)) (by decide) rfl hl.1 (Nat.le_of_ble_eq_true rfl) dX11_isPlace_15) hS (fun r4 H locs hf hP hS => ?_)
        refine lv_if_eq (tgt := 25) hx hb dX11_isPlace_18 (by decide) (fun hc => ?_) (fun hc => ?_)
        · have hf := (OB_f hf (bI_f hc))
          refine lv_iconst (v := 0) hx hb dX11_isPlace_25 (by decide) ?_
          refine W.eq (g2 := F0 m 26 ls [.int (bI false)]) rfl ?_
          exact (OB_some hf) _ _ _ hP hS (lv_sub hl [] rfl)
        · have hf := (OB_t hf (bI_t hc))
          refine lv_iconst (v := 1) hx hb dX11_isPlace_21 (by decide) ?_
          refine lv_goto (tgt := 26) hx hb dX11_isPlace_22 (by decide) ?_
          refine W.eq (g2 := F0 m 26 ls [.int (bI true)]) rfl ?_
          exact (OB_some hf) _ _ _ hP hS (lv_sub hl [] rfl)
def rm_X11_put : Room := { frames := 5, cells := 0, slots := 0, locals := 118 }
set_option maxRecDepth 100000 in
set_option maxHeartbeats 8000000 in
theorem c_X11_put {l : Launch} {G : GG} {a1 : Int32} {a2 : Int32} {a3 : Int32} {a4 : Int32} {a5 : Int32} {M : Mem} {h : Int64}  {P9 : (Int32 × Mem) → Prop} (hf : OB (f_X11_put a1 a2 a3 a4 a5 M) P9) : Met1 l yX11_put cX11_put 6 (some .int) rm_X11_put G [.ref (xa G 0), .int a1, .int a2, .int a3, .int a4, .int a5] M h (QI1 G h P9) := by
  unfold f_X11_put at hf
  refine xm_i1 (by decide) (Nat.le_of_ble_eq_true rfl) ?_
  intro p e s m args below meth c ls Q C hE hret hP hS hl
  have C : CallFix p m c cX11_put 6 s args TB RX11 := C
  have hx := C.1
  have hb := C.2.1
  have hl : lv_has ls 6 [(0, .ref (xa G 0)), (1, .int a1), (2, .int a2), (3, .int a3), (4, .int a4), (5, .int a5)] := hl
  refine lv_iload_n hx hb dX11_put_0 rfl (lv_at hl 1 rfl) ?_
  refine lv_iload_n hx hb dX11_put_1 rfl (lv_at hl 2 rfl) ?_
  refine x_cz0 (rest := []) (x_runS C hE hP hS ykX11_areTwoLands lkX11_155 (c_X11_areTwoLands (OB_bind hf)) (by decide) rfl hl.1 (Nat.le_of_ble_eq_true rfl) dX11_put_2) hS (fun r1 H locs hf hP hS => ?_)
  refine lv_if_ne (tgt := 11) hx hb dX11_put_5 (by decide) (fun hc => ?_) (fun hc => ?_)
  · have hf := (OB_t hf (bI_t hc))
    refine lv_iload_n hx hb dX11_put_11 rfl (lv_at hl 3 rfl) ?_
    refine lv_iload hx hb dX11_put_12 (lv_at hl 4 rfl) ?_
    refine x_cz0 (rest := []) (x_runS C hE hP hS ykX11_isPlace lkX11_159 (c_X11_isPlace (OB_bind hf)) (by decide) rfl hl.1 (Nat.le_of_ble_eq_true rfl) dX11_put_14) hS (fun r2 H locs hf hP hS => ?_)
    refine lv_if_eq (tgt := 30) hx hb dX11_put_17 (by decide) (fun hc => ?_) (fun hc => ?_)
    · have hf := (OB_f hf (bI_f hc))
      refine lv_ldc hx hb C.2.2.2.1 (C.2.2.2.2 _ ckX11_162) dX11_put_30 ?_
      exact hret _ _ _ _ _ _ (OB_some hf) hP hS dX11_put_32
    · have hf := (OB_t hf (bI_t hc))
      refine lv_iload hx hb dX11_put_20 (lv_at hl 5 rfl) ?_
      refine lv_bipush (v := 6) hx hb dX11_put_22 (by decide) ?_
      refine x_cz0 (rest := []) (x_runS C hE hP hS ykX11_within lkX11_94 (c_X11_within (OB_bind hf)) (by decide) rfl hl.1 (Nat.le_of_ble_eq_true rfl) dX11_put_24) hS (fun r3 H locs hf hP hS => ?_)
      refine lv_if_ne (tgt := 33) hx hb dX11_put_27 (by decide) (fun hc => ?_) (fun hc => ?_)
      · have hf := (OB_t hf (bI_t hc))
        refine lv_aload_n hx hb dX11_put_33 rfl (lv_at hl 0 rfl) ?_
        refine gfX11_10 C hE hP dX11_put_34 ?_
        refine lv_iload_n hx hb dX11_put_37 rfl (lv_at hl 2 rfl) ?_
        refine lv_iload_n hx hb dX11_put_38 rfl (lv_at hl 3 rfl) ?_
        refine x_cz0 (rest := []) (x_runV C hE hP hS ykX2_staysInRows lkX11_163 sh1 rfl (c_X2_staysInRows (OB_bind hf)) (by decide) rfl hl.1 (Nat.le_of_ble_eq_true rfl) dX11_put_39) hS (fun r4 H locs hf hP hS => ?_)
        refine lv_if_ne (tgt := 58) hx hb dX11_put_42 (by decide) (fun hc => ?_) (fun hc => ?_)
        · have hf := (OB_t hf (bI_t hc))
          refine lv_iload hx hb dX11_put_58 (lv_at hl 5 rfl) ?_
          refine lv_iconst (v := 5) hx hb dX11_put_60 (by decide) ?_
          refine lv_icmp_ne (tgt := 77) hx hb dX11_put_61 (by decide) (fun hc => ?_) (fun hc => ?_)
          · have hf := (OB_f hf hc)
            refine lv_aload_n hx hb dX11_put_77 rfl (lv_at hl 0 rfl) ?_
            refine gfX11_28 C hE hP dX11_put_78 ?_
            refine lv_iload_n hx hb dX11_put_81 rfl (lv_at hl 1 rfl) ?_
            refine lv_iload_n hx hb dX11_put_82 rfl (lv_at hl 2 rfl) ?_
            refine lv_iload_n hx hb dX11_put_83 rfl (lv_at hl 3 rfl) ?_
            refine lv_iload hx hb dX11_put_84 (lv_at hl 4 rfl) ?_
            refine x_cv1 (rest := []) (x_runV C hE hP hS ykX1_look lkX11_170 sh9 rfl (c_X1_look (OB_bind hf)) (by decide) rfl hl.1 (Nat.le_of_ble_eq_true rfl) dX11_put_86) hS (fun M5 H locs hf hP hS => ?_)
            refine lv_iload hx hb dX11_put_89 (lv_at hl 5 rfl) ?_
            by_cases hs91_0 : a5 = 0
            · have hf := OB_t hf hs91_0
              refine lv_tableIn (off := 29) (tgt := 120) hx hb dX11_put_91 (by rw [hs91_0]; decide) (by rw [hs91_0]; decide) (by rw [hs91_0]; rfl) (by decide) ?_
              refine lv_aload_n hx hb dX11_put_120 rfl (lv_at hl 0 rfl) ?_
              refine gfX11_28 C hE hP dX11_put_121 ?_
              refine gfX11_174 C hE hP dX11_put_124 ?_
              exact hret _ _ _ _ _ _ (OB_some hf) hP hS dX11_put_127
            · have hf := OB_f hf hs91_0
              by_cases hs91_1 : a5 = 1
              · have hf := OB_t hf hs91_1
                refine lv_tableIn (off := 37) (tgt := 128) hx hb dX11_put_91 (by rw [hs91_1]; decide) (by rw [hs91_1]; decide) (by rw [hs91_1]; rfl) (by decide) ?_
                refine lv_aload_n hx hb dX11_put_128 rfl (lv_at hl 0 rfl) ?_
                refine gfX11_28 C hE hP dX11_put_129 ?_
                refine gfX11_178 C hE hP dX11_put_132 ?_
                exact hret _ _ _ _ _ _ (OB_some hf) hP hS dX11_put_135
              · have hf := OB_f hf hs91_1
                by_cases hs91_2 : a5 = 2
                · have hf := OB_t hf hs91_2
                  refine lv_tableIn (off := 45) (tgt := 136) hx hb dX11_put_91 (by rw [hs91_2]; decide) (by rw [hs91_2]; decide) (by rw [hs91_2]; rfl) (by decide) ?_
                  refine lv_aload_n hx hb dX11_put_136 rfl (lv_at hl 0 rfl) ?_
                  refine gfX11_28 C hE hP dX11_put_137 ?_
                  refine gfX11_181 C hE hP dX11_put_140 ?_
                  exact hret _ _ _ _ _ _ (OB_some hf) hP hS dX11_put_143
                · have hf := OB_f hf hs91_2
                  by_cases hs91_3 : a5 = 3
                  · have hf := OB_t hf hs91_3
                    refine lv_tableIn (off := 53) (tgt := 144) hx hb dX11_put_91 (by rw [hs91_3]; decide) (by rw [hs91_3]; decide) (by rw [hs91_3]; rfl) (by decide) ?_
                    refine lv_aload_n hx hb dX11_put_144 rfl (lv_at hl 0 rfl) ?_
                    refine gfX11_28 C hE hP dX11_put_145 ?_
                    refine x_ci0 (rest := []) (x_runV C hE hP hS ykX1_price lkX11_184 sh9 rfl (c_X1_price (OB_bind hf)) (by decide) rfl hl.1 (Nat.le_of_ble_eq_true rfl) dX11_put_148) hS (fun r6 H locs hf hP hS => ?_)
                    exact hret _ _ _ _ _ _ (OB_some hf) hP hS dX11_put_151
                  · have hf := OB_f hf hs91_3
                    refine lv_tableOut (tgt := 152) hx hb dX11_put_91 (by have n0 := lv_neT hs91_0 (by decide : (0 : Int32).toInt = 0); have n1 := lv_neT hs91_1 (by decide : (1 : Int32).toInt = 1); have n2 := lv_neT hs91_2 (by decide : (2 : Int32).toInt = 2); have n3 := lv_neT hs91_3 (by decide : (3 : Int32).toInt = 3); omega) (by decide) ?_
                    refine lv_aload_n hx hb dX11_put_152 rfl (lv_at hl 0 rfl) ?_
                    refine gfX11_28 C hE hP dX11_put_153 ?_
                    refine x_cz0 (rest := []) (x_runV C hE hP hS ykX1_isCounted lkX11_187 sh9 rfl (c_X1_isCounted (OB_bind hf)) (by decide) rfl hl.1 (Nat.le_of_ble_eq_true rfl) dX11_put_156) hS (fun r7 H locs hf hP hS => ?_)
                    refine xj (fun (x8 : Bool) => ∀ (H : Heap) (locs : List Loc) (ls : Array Slot), va_P G.1 vwCl (wl G M5 h) H → va_S (Aw G) s.heap H locs → lv_has ls 6 [] → W p l e rm_X11_put s m args below meth c H locs 0 0 Q (F0 m 167 ls [.int (bI x8)])) hf ?_ (fun hf => ?_)
                    · rintro x8 hf H locs ls hP hS hl
                      exact hret _ _ _ _ _ _ (OB_some hf) hP hS dX11_put_167
                    · skip
                      refine lv_if_eq (tgt := 166) hx hb dX11_put_159 (by decide) (fun hc => ?_) (fun hc => ?_)
                      · have hf := (OB_f hf (bI_f hc))
                        refine lv_iconst (v := 0) hx hb dX11_put_166 (by decide) ?_
                        refine W.eq (g2 := F0 m 167 ls [.int (bI false)]) rfl ?_
                        exact (OB_some hf) _ _ _ hP hS (lv_sub hl [] rfl)
                      · have hf := (OB_t hf (bI_t hc))
                        refine lv_iconst (v := 1) hx hb dX11_put_162 (by decide) ?_
                        refine lv_goto (tgt := 167) hx hb dX11_put_163 (by decide) ?_
                        refine W.eq (g2 := F0 m 167 ls [.int (bI true)]) rfl ?_
                        exact (OB_some hf) _ _ _ hP hS (lv_sub hl [] rfl)
          · have hf := (OB_t hf hc)
            refine lv_aload_n hx hb dX11_put_64 rfl (lv_at hl 0 rfl) ?_
            refine gfX11_21 C hE hP dX11_put_65 ?_
            refine lv_iload_n hx hb dX11_put_68 rfl (lv_at hl 1 rfl) ?_
            refine lv_iload_n hx hb dX11_put_69 rfl (lv_at hl 2 rfl) ?_
            refine lv_iload_n hx hb dX11_put_70 rfl (lv_at hl 3 rfl) ?_
            refine lv_iload hx hb dX11_put_71 (lv_at hl 4 rfl) ?_
            refine x_ci0 (rest := []) (x_runV C hE hP hS ykX5_goingOn lkX11_167 sh5 rfl (c_X5_goingOn (OB_bind hf)) (by decide) rfl hl.1 (Nat.le_of_ble_eq_true rfl) dX11_put_73) hS (fun r9 H locs hf hP hS => ?_)
            exact hret _ _ _ _ _ _ (OB_some hf) hP hS dX11_put_76
        · have hf := (OB_f hf (bI_f hc))
          refine lv_iload hx hb dX11_put_45 (lv_at hl 5 rfl) ?_
          refine lv_iconst (v := 4) hx hb dX11_put_47 (by decide) ?_
          refine xj (fun (x10 : Int32) => ∀ (H : Heap) (locs : List Loc) (ls : Array Slot), va_P G.1 vwCl (wl G M h) H → va_S (Aw G) s.heap H locs → lv_has ls 6 [] → W p l e rm_X11_put s m args below meth c H locs 0 0 Q (F0 m 57 ls [.int x10])) hf ?_ (fun hf => ?_)
          · rintro x10 hf H locs ls hP hS hl
            exact hret _ _ _ _ _ _ (OB_some hf) hP hS dX11_put_57
          · skip
            refine lv_icmp_ne (tgt := 55) hx hb dX11_put_48 (by decide) (fun hc => ?_) (fun hc => ?_)
            · have hf := (OB_f hf hc)
              refine lv_ldc hx hb C.2.2.2.1 (C.2.2.2.2 _ ckX11_166) dX11_put_55 ?_
              exact (OB_some hf) _ _ _ hP hS (lv_sub hl [] rfl)
            · have hf := (OB_t hf hc)
              refine lv_iconst (v := 0) hx hb dX11_put_51 (by decide) ?_
              refine lv_goto (tgt := 57) hx hb dX11_put_52 (by decide) ?_
              exact (OB_some hf) _ _ _ hP hS (lv_sub hl [] rfl)
      · have hf := (OB_f hf (bI_f hc))
        refine lv_ldc hx hb C.2.2.2.1 (C.2.2.2.2 _ ckX11_162) dX11_put_30 ?_
        exact hret _ _ _ _ _ _ (OB_some hf) hP hS dX11_put_32
  · have hf := (OB_f hf (bI_f hc))
    refine lv_ldc hx hb C.2.2.2.1 (C.2.2.2.2 _ ckX11_158) dX11_put_8 ?_
    exact hret _ _ _ _ _ _ (OB_some hf) hP hS dX11_put_10
def rm_X11_fit : Room := { frames := 5, cells := 0, slots := 0, locals := 124 }
set_option maxRecDepth 100000 in
set_option maxHeartbeats 8000000 in
theorem c_X11_fit {l : Launch} {G : GG} {a1 : Int32} {a2 : Int32} {a3 : Int32} {M : Mem} {h : Int64}  {P9 : (Int32 × Mem) → Prop} (hf : OB (f_X11_fit a1 a2 a3 M) P9) : Met1 l yX11_fit cX11_fit 4 (some .int) rm_X11_fit G [.ref (xa G 0), .int a1, .int a2, .int a3] M h (QI1 G h P9) := by
  unfold f_X11_fit at hf
  refine xm_i1 (by decide) (Nat.le_of_ble_eq_true rfl) ?_
  intro p e s m args below meth c ls Q C hE hret hP hS hl
  have C : CallFix p m c cX11_fit 4 s args TB RX11 := C
  have hx := C.1
  have hb := C.2.1
  have hl : lv_has ls 4 [(0, .ref (xa G 0)), (1, .int a1), (2, .int a2), (3, .int a3)] := hl
  refine lv_iload_n hx hb dX11_fit_0 rfl (lv_at hl 1 rfl) ?_
  refine lv_iload_n hx hb dX11_fit_1 rfl (lv_at hl 2 rfl) ?_
  refine x_cz0 (rest := []) (x_runS C hE hP hS ykX11_areTwoLands lkX11_155 (c_X11_areTwoLands (OB_bind hf)) (by decide) rfl hl.1 (Nat.le_of_ble_eq_true rfl) dX11_fit_2) hS (fun r1 H locs hf hP hS => ?_)
  refine lv_if_ne (tgt := 11) hx hb dX11_fit_5 (by decide) (fun hc => ?_) (fun hc => ?_)
  · have hf := (OB_t hf (bI_t hc))
    refine lv_iload_n hx hb dX11_fit_11 rfl (lv_at hl 3 rfl) ?_
    refine lv_iconst (v := 3) hx hb dX11_fit_12 (by decide) ?_
    refine x_cz0 (rest := []) (x_runS C hE hP hS ykX11_within lkX11_94 (c_X11_within (OB_bind hf)) (by decide) rfl hl.1 (Nat.le_of_ble_eq_true rfl) dX11_fit_13) hS (fun r2 H locs hf hP hS => ?_)
    refine lv_if_ne (tgt := 22) hx hb dX11_fit_16 (by decide) (fun hc => ?_) (fun hc => ?_)
    · have hf := (OB_t hf (bI_t hc))
      refine lv_aload_n hx hb dX11_fit_22 rfl (lv_at hl 0 rfl) ?_
      refine gfX11_28 C hE hP dX11_fit_23 ?_
      refine lv_iload_n hx hb dX11_fit_26 rfl (lv_at hl 1 rfl) ?_
      refine lv_iload_n hx hb dX11_fit_27 rfl (lv_at hl 2 rfl) ?_
      refine lv_iconst (v := 0) hx hb dX11_fit_28 (by decide) ?_
      refine x_cv1 (rest := []) (x_runV C hE hP hS ykX1_survey lkX11_190 sh9 rfl (c_X1_survey (OB_bind hf)) (by decide) rfl hl.1 (Nat.le_of_ble_eq_true rfl) dX11_fit_29) hS (fun M3 H locs hf hP hS => ?_)
      refine lv_iload_n hx hb dX11_fit_32 rfl (lv_at hl 3 rfl) ?_
      refine lv_iconst (v := 2) hx hb dX11_fit_33 (by decide) ?_
      refine lv_icmp_ne (tgt := 45) hx hb dX11_fit_34 (by decide) (fun hc => ?_) (fun hc => ?_)
      · have hf := (OB_f hf hc)
        refine lv_aload_n hx hb dX11_fit_45 rfl (lv_at hl 0 rfl) ?_
        refine gfX11_28 C hE hP dX11_fit_46 ?_
        refine gfX11_194 C hE hP dX11_fit_49 ?_
        refine lv_if_ne (tgt := 57) hx hb dX11_fit_52 (by decide) (fun hc => ?_) (fun hc => ?_)
        · have hf := (OB_f hf hc)
          refine lv_iload_n hx hb dX11_fit_57 rfl (lv_at hl 3 rfl) ?_
          refine xj (fun (x4 : Int32) => ∀ (H : Heap) (locs : List Loc) (ls : Array Slot), va_P G.1 vwCl (wl G M3 h) H → va_S (Aw G) s.heap H locs → lv_has ls 4 [] → W p l e rm_X11_fit s m args below meth c H locs 0 0 Q (F0 m 81 ls [.int x4])) hf ?_ (fun hf => ?_)
          · rintro x4 hf H locs ls hP hS hl
            exact hret _ _ _ _ _ _ (OB_some hf) hP hS dX11_fit_81
          · skip
            refine lv_if_ne (tgt := 74) hx hb dX11_fit_58 (by decide) (fun hc => ?_) (fun hc => ?_)
            · have hf := (OB_f hf hc)
              refine lv_aload_n hx hb dX11_fit_74 rfl (lv_at hl 0 rfl) ?_
              refine gfX11_28 C hE hP dX11_fit_75 ?_
              refine gfX11_200 C hE hP dX11_fit_78 ?_
              exact (OB_some hf) _ _ _ hP hS (lv_sub hl [] rfl)
            · have hf := (OB_t hf hc)
              refine lv_aload_n hx hb dX11_fit_61 rfl (lv_at hl 0 rfl) ?_
              refine gfX11_28 C hE hP dX11_fit_62 ?_
              refine gfX11_197 C hE hP dX11_fit_65 ?_
              refine lv_bipush (v := 7) hx hb dX11_fit_68 (by decide) ?_
              refine lv_iadd hx hb dX11_fit_70 ?_
              refine lv_goto (tgt := 81) hx hb dX11_fit_71 (by decide) ?_
              exact (OB_some hf) _ _ _ hP hS (lv_sub hl [] rfl)
        · have hf := (OB_t hf hc)
          refine lv_iconst (v := -1) hx hb dX11_fit_55 (by decide) ?_
          exact hret _ _ _ _ _ _ (OB_some hf) hP hS dX11_fit_56
      · have hf := (OB_t hf hc)
        refine lv_aload_n hx hb dX11_fit_37 rfl (lv_at hl 0 rfl) ?_
        refine gfX11_28 C hE hP dX11_fit_38 ?_
        refine gfX11_194 C hE hP dX11_fit_41 ?_
        exact hret _ _ _ _ _ _ (OB_some hf) hP hS dX11_fit_44
    · have hf := (OB_f hf (bI_f hc))
      refine lv_bipush (v := -102) hx hb dX11_fit_19 (by decide) ?_
      exact hret _ _ _ _ _ _ (OB_some hf) hP hS dX11_fit_21
  · have hf := (OB_f hf (bI_f hc))
    refine lv_bipush (v := -101) hx hb dX11_fit_8 (by decide) ?_
    exact hret _ _ _ _ _ _ (OB_some hf) hP hS dX11_fit_10
def rm_X11_reduced : Room := { frames := 1, cells := 0, slots := 0, locals := 21 }
set_option maxRecDepth 100000 in
set_option maxHeartbeats 8000000 in
theorem c_X11_reduced {l : Launch} {G : GG} {a0 : Int32} {a1 : Int32} {M : Mem} {h : Int64}  {P9 : Int32 → Prop} (hf : OB (f_X11_reduced a0 a1) P9) : Met1 l yX11_reduced cX11_reduced 3 (some .int) rm_X11_reduced G [.int a0, .int a1] M h (QI0 G M h P9) := by
  unfold f_X11_reduced at hf
  refine xm_i0 (by decide) (Nat.le_of_ble_eq_true rfl) ?_
  intro p e s m args below meth c ls Q C hE hret hP hS hl
  have C : CallFix p m c cX11_reduced 3 s args TB RX11 := C
  have hx := C.1
  have hb := C.2.1
  have hl : lv_has ls 3 [(0, .int a0), (1, .int a1)] := hl
  refine lv_iload_n hx hb dX11_reduced_0 rfl (lv_at hl 0 rfl) ?_
  refine lv_iload_n hx hb dX11_reduced_1 rfl (lv_at hl 1 rfl) ?_
  refine x_mmin C hl.1 lkX11_356 (by decide) (Nat.le_of_ble_eq_true rfl) dX11_reduced_2 ?_
  refine lv_istore_n (lv' := [(2, .int (jmin a0 a1)), (0, .int a0), (1, .int a1)]) hx hb dX11_reduced_5 rfl hl (by decide) rfl (fun ls hl => ?_)
  refine xj (it_P (fun (_ : Unit) => ∀ (H : Heap) (locs : List Loc) (ls : Array Slot), va_P G.1 vwCl (wl G M h) H → va_S (Aw G) s.heap H locs → lv_has ls 3 [(0, .int a0)] → W p l e rm_X11_reduced s m args below meth c H locs 0 0 Q (F0 m 33 ls [])) P9) hf ?_ (fun hf => ?_)
  · rintro (_ | v) hf
    · intro H locs ls hP hS hl
      refine lv_iload_n hx hb dX11_reduced_33 rfl (lv_at hl 0 rfl) ?_
      exact hret _ _ _ _ _ (OB_some hf) hP hS dX11_reduced_34
    · exact it_q hf
  · refine (it_W (fun (x3 : Int32) => ∀ (H : Heap) (locs : List Loc) (ls : Array Slot), va_P G.1 vwCl (wl G M h) H → va_S (Aw G) s.heap H locs → lv_has ls 3 [(0, .int a0), (1, .int a1), (2, .int x3)] → W p l e rm_X11_reduced s m args below meth c H locs 0 0 Q (F0 m 6 ls [])) hf ?_) _ _ _ hP hS (lv_sub hl [1, 2, 0] rfl)
    rintro x3 hf H locs ls hP hS hl
    unfold f_X11_reduced_b6 at hf
    refine lv_iload_n hx hb dX11_reduced_6 rfl (lv_at hl 2 rfl) ?_
    refine lv_iconst (v := 1) hx hb dX11_reduced_7 (by decide) ?_
    refine lv_icmp_le (tgt := 33) hx hb dX11_reduced_8 (by decide) (fun hc => ?_) (fun hc => ?_)
    · have hf := (OB_t hf hc)
      exact (it_e hf) _ _ _ hP hS (lv_sub hl [0] rfl)
    · have hf := (OB_f hf hc)
      refine lv_iload_n hx hb dX11_reduced_11 rfl (lv_at hl 0 rfl) ?_
      refine lv_iload_n hx hb dX11_reduced_12 rfl (lv_at hl 2 rfl) ?_
      obtain ⟨g4, hf⟩ := OB_g hf
      refine x_irem C dX11_reduced_13 g4 ?_
      refine lv_if_ne (tgt := 27) hx hb dX11_reduced_14 (by decide) (fun hc => ?_) (fun hc => ?_)
      · have hf := (OB_f hf hc)
        refine lv_iinc (v := (x3 + (-1))) (lv' := [(2, .int (x3 + (-1))), (0, .int a0), (1, .int a1)]) hx hb dX11_reduced_27 hl (k := 2) rfl rfl (by decide) rfl (fun ls hl => ?_)
        refine lv_goto (tgt := 6) hx hb dX11_reduced_30 (by decide) ?_
        exact (it_c hf) _ _ _ hP hS (lv_sub hl [1, 2, 0] rfl)
      · have hf := (OB_t hf hc)
        refine lv_iload_n hx hb dX11_reduced_17 rfl (lv_at hl 1 rfl) ?_
        refine lv_iload_n hx hb dX11_reduced_18 rfl (lv_at hl 2 rfl) ?_
        refine x_irem C dX11_reduced_19 g4 ?_
        refine lv_if_ne (tgt := 27) hx hb dX11_reduced_20 (by decide) (fun hc => ?_) (fun hc => ?_)
        · have hf := (OB_f hf hc)
          refine lv_iinc (v := (x3 + (-1))) (lv' := [(2, .int (x3 + (-1))), (0, .int a0), (1, .int a1)]) hx hb dX11_reduced_27 hl (k := 2) rfl rfl (by decide) rfl (fun ls hl => ?_)
          refine lv_goto (tgt := 6) hx hb dX11_reduced_30 (by decide) ?_
          exact (it_c hf) _ _ _ hP hS (lv_sub hl [1, 2, 0] rfl)
        · have hf := (OB_t hf hc)
          refine lv_iload_n hx hb dX11_reduced_23 rfl (lv_at hl 0 rfl) ?_
          refine lv_iload_n hx hb dX11_reduced_24 rfl (lv_at hl 2 rfl) ?_
          refine lv_idiv hx hb dX11_reduced_25 g4 ?_
          exact hret _ _ _ _ _ (it_r hf) hP hS dX11_reduced_26
def rm_X11_chance : Room := { frames := 5, cells := 0, slots := 0, locals := 124 }
set_option maxRecDepth 100000 in
set_option maxHeartbeats 8000000 in
theorem c_X11_chance {l : Launch} {G : GG} {a1 : Int32} {a2 : Int32} {a3 : Int32} {a4 : Int32} {a5 : Int32} {M : Mem} {h : Int64}  {P9 : (Int32 × Mem) → Prop} (hf : OB (f_X11_chance a1 a2 a3 a4 a5 M) P9) : Met1 l yX11_chance cX11_chance 6 (some .int) rm_X11_chance G [.ref (xa G 0), .int a1, .int a2, .int a3, .int a4, .int a5] M h (QI1 G h P9) := by
  unfold f_X11_chance at hf
  refine xm_i1 (by decide) (Nat.le_of_ble_eq_true rfl) ?_
  intro p e s m args below meth c ls Q C hE hret hP hS hl
  have C : CallFix p m c cX11_chance 6 s args TB RX11 := C
  have hx := C.1
  have hb := C.2.1
  have hl : lv_has ls 6 [(0, .ref (xa G 0)), (1, .int a1), (2, .int a2), (3, .int a3), (4, .int a4), (5, .int a5)] := hl
  refine lv_iload_n hx hb dX11_chance_0 rfl (lv_at hl 1 rfl) ?_
  refine lv_iload_n hx hb dX11_chance_1 rfl (lv_at hl 2 rfl) ?_
  refine x_cz0 (rest := []) (x_runS C hE hP hS ykX11_areTwoLands lkX11_155 (c_X11_areTwoLands (OB_bind hf)) (by decide) rfl hl.1 (Nat.le_of_ble_eq_true rfl) dX11_chance_2) hS (fun r1 H locs hf hP hS => ?_)
  refine lv_if_ne (tgt := 11) hx hb dX11_chance_5 (by decide) (fun hc => ?_) (fun hc => ?_)
  · have hf := (OB_t hf (bI_t hc))
    refine lv_iload_n hx hb dX11_chance_11 rfl (lv_at hl 3 rfl) ?_
    refine lv_iload hx hb dX11_chance_12 (lv_at hl 4 rfl) ?_
    refine x_cz0 (rest := []) (x_runS C hE hP hS ykX11_isPlace lkX11_159 (c_X11_isPlace (OB_bind hf)) (by decide) rfl hl.1 (Nat.le_of_ble_eq_true rfl) dX11_chance_14) hS (fun r2 H locs hf hP hS => ?_)
    refine lv_if_eq (tgt := 29) hx hb dX11_chance_17 (by decide) (fun hc => ?_) (fun hc => ?_)
    · have hf := (OB_f hf (bI_f hc))
      refine lv_bipush (v := -102) hx hb dX11_chance_29 (by decide) ?_
      exact hret _ _ _ _ _ _ (OB_some hf) hP hS dX11_chance_31
    · have hf := (OB_t hf (bI_t hc))
      refine lv_iload hx hb dX11_chance_20 (lv_at hl 5 rfl) ?_
      refine lv_iconst (v := 2) hx hb dX11_chance_22 (by decide) ?_
      refine x_cz0 (rest := []) (x_runS C hE hP hS ykX11_within lkX11_94 (c_X11_within (OB_bind hf)) (by decide) rfl hl.1 (Nat.le_of_ble_eq_true rfl) dX11_chance_23) hS (fun r3 H locs hf hP hS => ?_)
      refine lv_if_ne (tgt := 32) hx hb dX11_chance_26 (by decide) (fun hc => ?_) (fun hc => ?_)
      · have hf := (OB_t hf (bI_t hc))
        refine lv_aload_n hx hb dX11_chance_32 rfl (lv_at hl 0 rfl) ?_
        refine gfX11_10 C hE hP dX11_chance_33 ?_
        refine lv_iload_n hx hb dX11_chance_36 rfl (lv_at hl 2 rfl) ?_
        refine lv_iload_n hx hb dX11_chance_37 rfl (lv_at hl 3 rfl) ?_
        refine x_cz0 (rest := []) (x_runV C hE hP hS ykX2_staysInRows lkX11_163 sh1 rfl (c_X2_staysInRows (OB_bind hf)) (by decide) rfl hl.1 (Nat.le_of_ble_eq_true rfl) dX11_chance_38) hS (fun r4 H locs hf hP hS => ?_)
        refine lv_if_ne (tgt := 47) hx hb dX11_chance_41 (by decide) (fun hc => ?_) (fun hc => ?_)
        · have hf := (OB_t hf (bI_t hc))
          refine lv_aload_n hx hb dX11_chance_47 rfl (lv_at hl 0 rfl) ?_
          refine gfX11_28 C hE hP dX11_chance_48 ?_
          refine lv_iload_n hx hb dX11_chance_51 rfl (lv_at hl 1 rfl) ?_
          refine lv_iload_n hx hb dX11_chance_52 rfl (lv_at hl 2 rfl) ?_
          refine lv_iload_n hx hb dX11_chance_53 rfl (lv_at hl 3 rfl) ?_
          refine lv_iload hx hb dX11_chance_54 (lv_at hl 4 rfl) ?_
          refine x_cv1 (rest := []) (x_runV C hE hP hS ykX1_look lkX11_170 sh9 rfl (c_X1_look (OB_bind hf)) (by decide) rfl hl.1 (Nat.le_of_ble_eq_true rfl) dX11_chance_56) hS (fun M5 H locs hf hP hS => ?_)
          refine lv_aload_n hx hb dX11_chance_59 rfl (lv_at hl 0 rfl) ?_
          refine gfX11_28 C hE hP dX11_chance_60 ?_
          refine x_cz0 (rest := []) (x_runV C hE hP hS ykX1_isCounted lkX11_187 sh9 rfl (c_X1_isCounted (OB_bind hf)) (by decide) rfl hl.1 (Nat.le_of_ble_eq_true rfl) dX11_chance_63) hS (fun r6 H locs hf hP hS => ?_)
          refine lv_if_ne (tgt := 72) hx hb dX11_chance_66 (by decide) (fun hc => ?_) (fun hc => ?_)
          · have hf := (OB_t hf (bI_t hc))
            refine lv_aload_n hx hb dX11_chance_72 rfl (lv_at hl 0 rfl) ?_
            refine gfX11_28 C hE hP dX11_chance_73 ?_
            refine lv_iload_n hx hb dX11_chance_76 rfl (lv_at hl 1 rfl) ?_
            refine lv_iload_n hx hb dX11_chance_77 rfl (lv_at hl 2 rfl) ?_
            refine lv_aload_n hx hb dX11_chance_78 rfl (lv_at hl 0 rfl) ?_
            refine gfX11_28 C hE hP dX11_chance_79 ?_
            refine x_ci0 (rest := [.int a2, .int a1, .ref (xa G 9)]) (x_runV C hE hP hS ykX1_price lkX11_184 sh9 rfl (c_X1_price (OB_bind hf)) (by decide) rfl hl.1 (Nat.le_of_ble_eq_true rfl) dX11_chance_82) hS (fun r7 H locs hf hP hS => ?_)
            refine x_cv1 (rest := []) (x_runV C hE hP hS ykX1_survey lkX11_190 sh9 rfl (c_X1_survey (OB_bind hf)) (by decide) rfl hl.1 (Nat.le_of_ble_eq_true rfl) dX11_chance_85) hS (fun M8 H locs hf hP hS => ?_)
            refine lv_iload hx hb dX11_chance_88 (lv_at hl 5 rfl) ?_
            refine xj (fun (x13 : Int32) => ∀ (H : Heap) (locs : List Loc) (ls : Array Slot), va_P G.1 vwCl (wl G M8 h) H → va_S (Aw G) s.heap H locs → lv_has ls 6 [] → W p l e rm_X11_chance s m args below meth c H locs 0 0 Q (F0 m 130 ls [.int x13])) hf ?_ (fun hf => ?_)
            · rintro x13 hf H locs ls hP hS hl
              exact hret _ _ _ _ _ _ (OB_some hf) hP hS dX11_chance_130
            · skip
              refine lv_if_ne (tgt := 113) hx hb dX11_chance_90 (by decide) (fun hc => ?_) (fun hc => ?_)
              · have hf := (OB_f hf hc)
                refine lv_aload_n hx hb dX11_chance_113 rfl (lv_at hl 0 rfl) ?_
                refine gfX11_28 C hE hP dX11_chance_114 ?_
                refine gfX11_194 C hE hP dX11_chance_117 ?_
                refine lv_aload_n hx hb dX11_chance_120 rfl (lv_at hl 0 rfl) ?_
                refine gfX11_28 C hE hP dX11_chance_121 ?_
                refine gfX11_203 C hE hP dX11_chance_124 ?_
                refine x_ci0 (rest := []) (x_runS C hE hP hS ykX11_reduced lkX11_206 (c_X11_reduced (OB_bind hf)) (by decide) rfl hl.1 (Nat.le_of_ble_eq_true rfl) dX11_chance_127) hS (fun r14 H locs hf hP hS => ?_)
                exact (OB_some hf) _ _ _ hP hS (lv_sub hl [] rfl)
              · have hf := (OB_t hf hc)
                refine lv_aload_n hx hb dX11_chance_93 rfl (lv_at hl 0 rfl) ?_
                refine gfX11_28 C hE hP dX11_chance_94 ?_
                refine gfX11_203 C hE hP dX11_chance_97 ?_
                refine lv_aload_n hx hb dX11_chance_100 rfl (lv_at hl 0 rfl) ?_
                refine gfX11_28 C hE hP dX11_chance_101 ?_
                refine gfX11_194 C hE hP dX11_chance_104 ?_
                refine x_ci0 (rest := []) (x_runS C hE hP hS ykX11_reduced lkX11_206 (c_X11_reduced (OB_bind hf)) (by decide) rfl hl.1 (Nat.le_of_ble_eq_true rfl) dX11_chance_107) hS (fun r15 H locs hf hP hS => ?_)
                refine lv_goto (tgt := 130) hx hb dX11_chance_110 (by decide) ?_
                exact (OB_some hf) _ _ _ hP hS (lv_sub hl [] rfl)
          · have hf := (OB_f hf (bI_f hc))
            refine lv_bipush (v := -103) hx hb dX11_chance_69 (by decide) ?_
            exact hret _ _ _ _ _ _ (OB_some hf) hP hS dX11_chance_71
        · have hf := (OB_f hf (bI_f hc))
          refine lv_bipush (v := -103) hx hb dX11_chance_44 (by decide) ?_
          exact hret _ _ _ _ _ _ (OB_some hf) hP hS dX11_chance_46
      · have hf := (OB_f hf (bI_f hc))
        refine lv_bipush (v := -102) hx hb dX11_chance_29 (by decide) ?_
        exact hret _ _ _ _ _ _ (OB_some hf) hP hS dX11_chance_31
  · have hf := (OB_f hf (bI_f hc))
    refine lv_bipush (v := -101) hx hb dX11_chance_8 (by decide) ?_
    exact hret _ _ _ _ _ _ (OB_some hf) hP hS dX11_chance_10
def rm_X11_asGreat : Room := { frames := 5, cells := 0, slots := 0, locals := 118 }
set_option maxRecDepth 100000 in
set_option maxHeartbeats 8000000 in
theorem c_X11_asGreat {l : Launch} {G : GG} {a1 : Int32} {a2 : Int32} {a3 : Int32} {a4 : Int32} {a5 : Int32} {M : Mem} {h : Int64}  {P9 : Int32 → Prop} (hf : OB (f_X11_asGreat a1 a2 a3 a4 a5 M) P9) : Met1 l yX11_asGreat cX11_asGreat 6 (some .int) rm_X11_asGreat G [.ref (xa G 0), .int a1, .int a2, .int a3, .int a4, .int a5] M h (QI0 G M h P9) := by
  unfold f_X11_asGreat at hf
  refine xm_i0 (by decide) (Nat.le_of_ble_eq_true rfl) ?_
  intro p e s m args below meth c ls Q C hE hret hP hS hl
  have C : CallFix p m c cX11_asGreat 6 s args TB RX11 := C
  have hx := C.1
  have hb := C.2.1
  have hl : lv_has ls 6 [(0, .ref (xa G 0)), (1, .int a1), (2, .int a2), (3, .int a3), (4, .int a4), (5, .int a5)] := hl
  refine lv_iload_n hx hb dX11_asGreat_0 rfl (lv_at hl 3 rfl) ?_
  refine lv_iload hx hb dX11_asGreat_1 (lv_at hl 4 rfl) ?_
  refine x_cz0 (rest := []) (x_runS C hE hP hS ykX11_isPlace lkX11_159 (c_X11_isPlace (OB_bind hf)) (by decide) rfl hl.1 (Nat.le_of_ble_eq_true rfl) dX11_asGreat_3) hS (fun r1 H locs hf hP hS => ?_)
  refine lv_if_eq (tgt := 21) hx hb dX11_asGreat_6 (by decide) (fun hc => ?_) (fun hc => ?_)
  · have hf := (OB_f hf (bI_f hc))
    refine lv_iconst (v := 0) hx hb dX11_asGreat_21 (by decide) ?_
    exact hret _ _ _ _ _ (OB_some hf) hP hS dX11_asGreat_22
  · have hf := (OB_t hf (bI_t hc))
    refine lv_aload_n hx hb dX11_asGreat_9 rfl (lv_at hl 0 rfl) ?_
    refine gfX11_10 C hE hP dX11_asGreat_10 ?_
    refine lv_iload_n hx hb dX11_asGreat_13 rfl (lv_at hl 2 rfl) ?_
    refine lv_iload_n hx hb dX11_asGreat_14 rfl (lv_at hl 3 rfl) ?_
    refine x_cz0 (rest := []) (x_runV C hE hP hS ykX2_staysInRows lkX11_163 sh1 rfl (c_X2_staysInRows (OB_bind hf)) (by decide) rfl hl.1 (Nat.le_of_ble_eq_true rfl) dX11_asGreat_15) hS (fun r2 H locs hf hP hS => ?_)
    refine lv_if_ne (tgt := 23) hx hb dX11_asGreat_18 (by decide) (fun hc => ?_) (fun hc => ?_)
    · have hf := (OB_t hf (bI_t hc))
      refine lv_aload_n hx hb dX11_asGreat_23 rfl (lv_at hl 0 rfl) ?_
      refine gfX11_21 C hE hP dX11_asGreat_24 ?_
      refine lv_iload_n hx hb dX11_asGreat_27 rfl (lv_at hl 1 rfl) ?_
      refine lv_iload_n hx hb dX11_asGreat_28 rfl (lv_at hl 2 rfl) ?_
      refine lv_iload_n hx hb dX11_asGreat_29 rfl (lv_at hl 3 rfl) ?_
      refine lv_iload hx hb dX11_asGreat_30 (lv_at hl 4 rfl) ?_
      refine x_ci0 (rest := []) (x_runV C hE hP hS ykX5_goingOn lkX11_167 sh5 rfl (c_X5_goingOn (OB_bind hf)) (by decide) rfl hl.1 (Nat.le_of_ble_eq_true rfl) dX11_asGreat_32) hS (fun r3 H locs hf hP hS => ?_)
      refine lv_iload hx hb dX11_asGreat_35 (lv_at hl 5 rfl) ?_
      refine xj (fun (x4 : Bool) => ∀ (H : Heap) (locs : List Loc) (ls : Array Slot), va_P G.1 vwCl (wl G M h) H → va_S (Aw G) s.heap H locs → lv_has ls 6 [] → W p l e rm_X11_asGreat s m args below meth c H locs 0 0 Q (F0 m 45 ls [.int (bI x4)])) hf ?_ (fun hf => ?_)
      · rintro x4 hf H locs ls hP hS hl
        exact hret _ _ _ _ _ (OB_some hf) hP hS dX11_asGreat_45
      · skip
        refine lv_icmp_lt (tgt := 44) hx hb dX11_asGreat_37 (by decide) (fun hc => ?_) (fun hc => ?_)
        · have hf := (OB_t hf hc)
          refine lv_iconst (v := 0) hx hb dX11_asGreat_44 (by decide) ?_
          refine W.eq (g2 := F0 m 45 ls [.int (bI false)]) rfl ?_
          exact (OB_some hf) _ _ _ hP hS (lv_sub hl [] rfl)
        · have hf := (OB_f hf hc)
          refine lv_iconst (v := 1) hx hb dX11_asGreat_40 (by decide) ?_
          refine lv_goto (tgt := 45) hx hb dX11_asGreat_41 (by decide) ?_
          refine W.eq (g2 := F0 m 45 ls [.int (bI true)]) rfl ?_
          exact (OB_some hf) _ _ _ hP hS (lv_sub hl [] rfl)
    · have hf := (OB_f hf (bI_f hc))
      refine lv_iconst (v := 0) hx hb dX11_asGreat_21 (by decide) ?_
      exact hret _ _ _ _ _ (OB_some hf) hP hS dX11_asGreat_22
def rm_X11_beside : Room := { frames := 6, cells := 0, slots := 0, locals := 143 }
set_option maxRecDepth 100000 in
set_option maxHeartbeats 8000000 in
theorem c_X11_beside {l : Launch} {G : GG} {a1 : Int32} {a2 : Int32} {a3 : Int32} {a4 : Int32} {M : Mem} {h : Int64}  {P9 : Int32 → Prop} (hf : OB (f_X11_beside a1 a2 a3 a4 M) P9) : Met1 l yX11_beside cX11_beside 6 (some .int) rm_X11_beside G [.ref (xa G 0), .int a1, .int a2, .int a3, .int a4] M h (QI0 G M h P9) := by
  unfold f_X11_beside at hf
  refine xm_i0 (by decide) (Nat.le_of_ble_eq_true rfl) ?_
  intro p e s m args below meth c ls Q C hE hret hP hS hl
  have C : CallFix p m c cX11_beside 6 s args TB RX11 := C
  have hx := C.1
  have hb := C.2.1
  have hl : lv_has ls 6 [(0, .ref (xa G 0)), (1, .int a1), (2, .int a2), (3, .int a3), (4, .int a4)] := hl
  refine lv_iload_n hx hb dX11_beside_0 rfl (lv_at hl 1 rfl) ?_
  refine lv_iload_n hx hb dX11_beside_1 rfl (lv_at hl 2 rfl) ?_
  refine x_cz0 (rest := []) (x_runS C hE hP hS ykX11_areTwoLands lkX11_155 (c_X11_areTwoLands (OB_bind hf)) (by decide) rfl hl.1 (Nat.le_of_ble_eq_true rfl) dX11_beside_2) hS (fun r1 H locs hf hP hS => ?_)
  refine lv_if_ne (tgt := 11) hx hb dX11_beside_5 (by decide) (fun hc => ?_) (fun hc => ?_)
  · have hf := (OB_t hf (bI_t hc))
    refine lv_iload_n hx hb dX11_beside_11 rfl (lv_at hl 3 rfl) ?_
    refine lv_iload hx hb dX11_beside_12 (lv_at hl 4 rfl) ?_
    refine x_cz0 (rest := []) (x_runS C hE hP hS ykX11_isPlace lkX11_159 (c_X11_isPlace (OB_bind hf)) (by decide) rfl hl.1 (Nat.le_of_ble_eq_true rfl) dX11_beside_14) hS (fun r2 H locs hf hP hS => ?_)
    refine lv_if_ne (tgt := 23) hx hb dX11_beside_17 (by decide) (fun hc => ?_) (fun hc => ?_)
    · have hf := (OB_t hf (bI_t hc))
      refine lv_aload_n hx hb dX11_beside_23 rfl (lv_at hl 0 rfl) ?_
      refine gfX11_10 C hE hP dX11_beside_24 ?_
      refine lv_iload_n hx hb dX11_beside_27 rfl (lv_at hl 2 rfl) ?_
      refine lv_iload_n hx hb dX11_beside_28 rfl (lv_at hl 3 rfl) ?_
      refine x_cz0 (rest := []) (x_runV C hE hP hS ykX2_staysInRows lkX11_163 sh1 rfl (c_X2_staysInRows (OB_bind hf)) (by decide) rfl hl.1 (Nat.le_of_ble_eq_true rfl) dX11_beside_29) hS (fun r3 H locs hf hP hS => ?_)
      refine lv_if_ne (tgt := 38) hx hb dX11_beside_32 (by decide) (fun hc => ?_) (fun hc => ?_)
      · have hf := (OB_t hf (bI_t hc))
        refine lv_aload_n hx hb dX11_beside_38 rfl (lv_at hl 0 rfl) ?_
        refine gfX11_21 C hE hP dX11_beside_39 ?_
        refine lv_iload_n hx hb dX11_beside_42 rfl (lv_at hl 1 rfl) ?_
        refine lv_iload_n hx hb dX11_beside_43 rfl (lv_at hl 2 rfl) ?_
        refine lv_iload_n hx hb dX11_beside_44 rfl (lv_at hl 3 rfl) ?_
        refine lv_iload hx hb dX11_beside_45 (lv_at hl 4 rfl) ?_
        refine x_ci0 (rest := []) (x_runV C hE hP hS ykX5_goingOn lkX11_167 sh5 rfl (c_X5_goingOn (OB_bind hf)) (by decide) rfl hl.1 (Nat.le_of_ble_eq_true rfl) dX11_beside_47) hS (fun r4 H locs hf hP hS => ?_)
        refine lv_istore (lv' := [(5, .int r4), (0, .ref (xa G 0)), (1, .int a1), (2, .int a2), (3, .int a3), (4, .int a4)]) hx hb dX11_beside_50 hl (by decide) rfl (fun ls hl => ?_)
        refine lv_aload_n hx hb dX11_beside_52 rfl (lv_at hl 1 rfl) ?_
        refine lv_iload_n hx hb dX11_beside_53 rfl (lv_at hl 2 rfl) ?_
        refine lv_iload_n hx hb dX11_beside_54 rfl (lv_at hl 3 rfl) ?_
        refine lv_iload_n hx hb dX11_beside_55 rfl (lv_at hl 4 rfl) ?_
        refine lv_iconst (v := 1) hx hb dX11_beside_56 (by decide) ?_
        refine lv_isub hx hb dX11_beside_57 ?_
        refine lv_iload hx hb dX11_beside_58 (lv_at hl 5 rfl) ?_
        refine lv_iload hx hb dX11_beside_60 (lv_at hl 0 rfl) ?_
        refine x_ci0 (rest := []) (x_runV C hE hP hS ykX11_asGreat lkX11_210 sh0 rfl (c_X11_asGreat (OB_bind hf)) (by decide) rfl hl.1 (Nat.le_of_ble_eq_true rfl) dX11_beside_62) hS (fun r5 H locs hf hP hS => ?_)
        refine lv_aload_n hx hb dX11_beside_65 rfl (lv_at hl 1 rfl) ?_
        refine lv_iload_n hx hb dX11_beside_66 rfl (lv_at hl 2 rfl) ?_
        refine lv_iload_n hx hb dX11_beside_67 rfl (lv_at hl 3 rfl) ?_
        refine lv_iload_n hx hb dX11_beside_68 rfl (lv_at hl 4 rfl) ?_
        refine lv_iconst (v := 1) hx hb dX11_beside_69 (by decide) ?_
        refine lv_iadd hx hb dX11_beside_70 ?_
        refine lv_iload hx hb dX11_beside_71 (lv_at hl 5 rfl) ?_
        refine lv_iload hx hb dX11_beside_73 (lv_at hl 0 rfl) ?_
        refine x_ci0 (rest := [.int r5]) (x_runV C hE hP hS ykX11_asGreat lkX11_210 sh0 rfl (c_X11_asGreat (OB_bind hf)) (by decide) rfl hl.1 (Nat.le_of_ble_eq_true rfl) dX11_beside_75) hS (fun r6 H locs hf hP hS => ?_)
        refine lv_iadd hx hb dX11_beside_78 ?_
        refine lv_aload_n hx hb dX11_beside_79 rfl (lv_at hl 1 rfl) ?_
        refine lv_iload_n hx hb dX11_beside_80 rfl (lv_at hl 2 rfl) ?_
        refine lv_iload_n hx hb dX11_beside_81 rfl (lv_at hl 3 rfl) ?_
        refine lv_iload_n hx hb dX11_beside_82 rfl (lv_at hl 4 rfl) ?_
        refine lv_iload hx hb dX11_beside_83 (lv_at hl 5 rfl) ?_
        refine lv_bipush (v := 15) hx hb dX11_beside_85 (by decide) ?_
        refine x_ci0 (rest := [.int a3, .int a2, .int a1, .ref (xa G 0), .int (r5 + r6)]) (x_runS C hE hP hS ykX11_eastOf lkX11_214 (c_X11_eastOf (OB_bind hf)) (by decide) rfl hl.1 (Nat.le_of_ble_eq_true rfl) dX11_beside_87) hS (fun r7 H locs hf hP hS => ?_)
        refine lv_iload hx hb dX11_beside_90 (lv_at hl 0 rfl) ?_
        refine x_ci0 (rest := [.int (r5 + r6)]) (x_runV C hE hP hS ykX11_asGreat lkX11_210 sh0 rfl (c_X11_asGreat (OB_bind hf)) (by decide) rfl hl.1 (Nat.le_of_ble_eq_true rfl) dX11_beside_92) hS (fun r8 H locs hf hP hS => ?_)
        refine lv_iadd hx hb dX11_beside_95 ?_
        refine lv_aload_n hx hb dX11_beside_96 rfl (lv_at hl 1 rfl) ?_
        refine lv_iload_n hx hb dX11_beside_97 rfl (lv_at hl 2 rfl) ?_
        refine lv_iload_n hx hb dX11_beside_98 rfl (lv_at hl 3 rfl) ?_
        refine lv_iload_n hx hb dX11_beside_99 rfl (lv_at hl 4 rfl) ?_
        refine lv_iload hx hb dX11_beside_100 (lv_at hl 5 rfl) ?_
        refine lv_iconst (v := 1) hx hb dX11_beside_102 (by decide) ?_
        refine x_ci0 (rest := [.int a3, .int a2, .int a1, .ref (xa G 0), .int ((r5 + r6) + r8)]) (x_runS C hE hP hS ykX11_eastOf lkX11_214 (c_X11_eastOf (OB_bind hf)) (by decide) rfl hl.1 (Nat.le_of_ble_eq_true rfl) dX11_beside_103) hS (fun r9 H locs hf hP hS => ?_)
        refine lv_iload hx hb dX11_beside_106 (lv_at hl 0 rfl) ?_
        refine x_ci0 (rest := [.int ((r5 + r6) + r8)]) (x_runV C hE hP hS ykX11_asGreat lkX11_210 sh0 rfl (c_X11_asGreat (OB_bind hf)) (by decide) rfl hl.1 (Nat.le_of_ble_eq_true rfl) dX11_beside_108) hS (fun r10 H locs hf hP hS => ?_)
        refine lv_iadd hx hb dX11_beside_111 ?_
        exact hret _ _ _ _ _ (OB_some hf) hP hS dX11_beside_112
      · have hf := (OB_f hf (bI_f hc))
        refine lv_bipush (v := -103) hx hb dX11_beside_35 (by decide) ?_
        exact hret _ _ _ _ _ (OB_some hf) hP hS dX11_beside_37
    · have hf := (OB_f hf (bI_f hc))
      refine lv_bipush (v := -102) hx hb dX11_beside_20 (by decide) ?_
      exact hret _ _ _ _ _ (OB_some hf) hP hS dX11_beside_22
  · have hf := (OB_f hf (bI_f hc))
    refine lv_bipush (v := -101) hx hb dX11_beside_8 (by decide) ?_
    exact hret _ _ _ _ _ (OB_some hf) hP hS dX11_beside_10
