def rm_X12_hasNeedle : Room := { frames := 0, cells := 0, slots := 0, locals := 0 }
set_option maxRecDepth 100000 in
set_option maxHeartbeats 8000000 in
theorem c_X12_hasNeedle {l : Launch} {G : GG} {a1 : Int32} {M : Mem} {h : Int64}  {P9 : Bool → Prop} (hf : OB (f_X12_hasNeedle a1 M) P9) : Met1 l yX12_hasNeedle cX12_hasNeedle 4 (some .boolean) rm_X12_hasNeedle G [.ref (xa G 132), .int a1] M h (QZ0 G M h P9) := by
  unfold f_X12_hasNeedle at hf
  refine xm_z0 (by decide) (Nat.le_of_ble_eq_true rfl) ?_
  intro p e s m args below meth c ls Q C hE hret hP hS hl
  have C : CallFix p m c cX12_hasNeedle 4 s args TB RX12 := C
  have hx := C.1
  have hb := C.2.1
  have hl : lv_has ls 4 [(0, .ref (xa G 132)), (1, .int a1)] := hl
  refine lv_iconst (v := 0) hx hb dX12_hasNeedle_0 (by decide) ?_
  refine lv_istore_n (lv' := [(2, .int 0), (0, .ref (xa G 132)), (1, .int a1)]) hx hb dX12_hasNeedle_1 rfl hl (by decide) rfl (fun ls hl => ?_)
  refine lv_iconst (v := 0) hx hb dX12_hasNeedle_2 (by decide) ?_
  refine lv_istore_n (lv' := [(3, .int 0), (2, .int 0), (0, .ref (xa G 132)), (1, .int a1)]) hx hb dX12_hasNeedle_3 rfl hl (by decide) rfl (fun ls hl => ?_)
  refine xj (fun (x21 : Bool) => ∀ (H : Heap) (locs : List Loc) (ls : Array Slot), va_P G.1 vwCl (wl G M h) H → va_S (Aw G) s.heap H locs → lv_has ls 4 [(2, .int (bI x21))] → W p l e rm_X12_hasNeedle s m args below meth c H locs 0 0 Q (F0 m 58 ls [])) hf ?_ (fun hf => ?_)
  · rintro x21 hf H locs ls hP hS hl
    refine lv_iload_n hx hb dX12_hasNeedle_58 rfl (lv_at hl 0 rfl) ?_
    exact hret _ _ _ _ _ (OB_some hf) hP hS dX12_hasNeedle_59
  · refine (it_W (fun (zz : (Bool × Int32)) => match zz with | (x19, x20) => ∀ (H : Heap) (locs : List Loc) (ls : Array Slot), va_P G.1 vwCl (wl G M h) H → va_S (Aw G) s.heap H locs → lv_has ls 4 [(0, .ref (xa G 132)), (1, .int a1), (2, .int (bI x19)), (3, .int x20)] → W p l e rm_X12_hasNeedle s m args below meth c H locs 0 0 Q (F0 m 4 ls [])) hf ?_) _ _ _ hP hS (lv_sub hl [2, 3, 1, 0] rfl)
    rintro ⟨x19, x20⟩ hf H locs ls hP hS hl
    unfold f_X12_hasNeedle_b4 at hf
    refine lv_iload_n hx hb dX12_hasNeedle_4 rfl (lv_at hl 3 rfl) ?_
    refine lv_aload_n hx hb dX12_hasNeedle_5 rfl (lv_at hl 0 rfl) ?_
    refine gfX12_98 C hE hP dX12_hasNeedle_6 ?_
    refine lv_icmp_ge (tgt := 58) hx hb dX12_hasNeedle_9 (by decide) (fun hc => ?_) (fun hc => ?_)
    · have hf := (OB_t hf hc)
      exact (it_e hf) _ _ _ hP hS (lv_sub hl [2] rfl)
    · have hf := (OB_f hf hc)
      refine lv_iload_n hx hb dX12_hasNeedle_12 rfl (lv_at hl 2 rfl) ?_
      refine xj (fun (x26 : Bool) => ∀ (H : Heap) (locs : List Loc) (ls : Array Slot), va_P G.1 vwCl (wl G M h) H → va_S (Aw G) s.heap H locs → lv_has ls 4 [(0, .ref (xa G 132)), (1, .int a1), (3, .int x20)] → W p l e rm_X12_hasNeedle s m args below meth c H locs 0 0 Q (F0 m 51 ls [.int (bI x26)])) hf ?_ (fun hf => ?_)
      · rintro x26 hf H locs ls hP hS hl
        refine lv_istore_n (lv' := [(2, .int (bI x26)), (0, .ref (xa G 132)), (1, .int a1), (3, .int x20)]) hx hb dX12_hasNeedle_51 rfl hl (by decide) rfl (fun ls hl => ?_)
        refine lv_iinc (v := (x20 + 1)) (lv' := [(3, .int (x20 + 1)), (2, .int (bI x26)), (0, .ref (xa G 132)), (1, .int a1)]) hx hb dX12_hasNeedle_52 hl (k := 3) rfl rfl (by decide) rfl (fun ls hl => ?_)
        refine lv_goto (tgt := 4) hx hb dX12_hasNeedle_55 (by decide) ?_
        exact (it_c hf) _ _ _ hP hS (lv_sub hl [2, 3, 1, 0] rfl)
      · skip
        refine lv_if_ne (tgt := 46) hx hb dX12_hasNeedle_13 (by decide) (fun hc => ?_) (fun hc => ?_)
        · have hf := (OB_t hf (bI_t hc))
          refine lv_iconst (v := 1) hx hb dX12_hasNeedle_46 (by decide) ?_
          refine lv_goto (tgt := 51) hx hb dX12_hasNeedle_47 (by decide) ?_
          refine W.eq (g2 := F0 m 51 ls [.int (bI true)]) rfl ?_
          exact (OB_some hf) _ _ _ hP hS (lv_sub hl [0, 1, 3] rfl)
        · have hf := (OB_f hf (bI_f hc))
          refine lv_aload_n hx hb dX12_hasNeedle_16 rfl (lv_at hl 0 rfl) ?_
          refine gfX12_13 C hE hP dX12_hasNeedle_17 ?_
          refine lv_iload_n hx hb dX12_hasNeedle_20 rfl (lv_at hl 3 rfl) ?_
          obtain ⟨g27, hf⟩ := OB_g hf
          refine x_iald C hE hP sh134 g27 dX12_hasNeedle_21 ?_
          refine lv_iconst (v := 4) hx hb dX12_hasNeedle_22 (by decide) ?_
          refine lv_icmp_ne (tgt := 50) hx hb dX12_hasNeedle_23 (by decide) (fun hc => ?_) (fun hc => ?_)
          · have hf := (OB_f hf hc)
            refine lv_iconst (v := 0) hx hb dX12_hasNeedle_50 (by decide) ?_
            refine W.eq (g2 := F0 m 51 ls [.int (bI false)]) rfl ?_
            exact (OB_some hf) _ _ _ hP hS (lv_sub hl [0, 1, 3] rfl)
          · have hf := (OB_t hf hc)
            refine lv_iload_n hx hb dX12_hasNeedle_26 rfl (lv_at hl 1 rfl) ?_
            refine lv_iconst (v := -1) hx hb dX12_hasNeedle_27 (by decide) ?_
            refine lv_icmp_eq (tgt := 46) hx hb dX12_hasNeedle_28 (by decide) (fun hc => ?_) (fun hc => ?_)
            · have hf := (OB_t hf hc)
              refine lv_iconst (v := 1) hx hb dX12_hasNeedle_46 (by decide) ?_
              refine lv_goto (tgt := 51) hx hb dX12_hasNeedle_47 (by decide) ?_
              refine W.eq (g2 := F0 m 51 ls [.int (bI true)]) rfl ?_
              exact (OB_some hf) _ _ _ hP hS (lv_sub hl [0, 1, 3] rfl)
            · have hf := (OB_f hf hc)
              refine lv_aload_n hx hb dX12_hasNeedle_31 rfl (lv_at hl 0 rfl) ?_
              refine gfX12_7 C hE hP dX12_hasNeedle_32 ?_
              refine lv_aload_n hx hb dX12_hasNeedle_35 rfl (lv_at hl 0 rfl) ?_
              refine gfX12_16 C hE hP dX12_hasNeedle_36 ?_
              refine lv_iload_n hx hb dX12_hasNeedle_39 rfl (lv_at hl 3 rfl) ?_
              refine x_iald C hE hP sh135 g27 dX12_hasNeedle_40 ?_
              obtain ⟨g28, hf⟩ := OB_g hf
              refine x_iald C hE hP sh133 g28 dX12_hasNeedle_41 ?_
              refine lv_iload_n hx hb dX12_hasNeedle_42 rfl (lv_at hl 1 rfl) ?_
              refine lv_icmp_ne (tgt := 50) hx hb dX12_hasNeedle_43 (by decide) (fun hc => ?_) (fun hc => ?_)
              · have hf := (OB_f hf hc)
                refine lv_iconst (v := 0) hx hb dX12_hasNeedle_50 (by decide) ?_
                refine W.eq (g2 := F0 m 51 ls [.int (bI false)]) rfl ?_
                exact (OB_some hf) _ _ _ hP hS (lv_sub hl [0, 1, 3] rfl)
              · have hf := (OB_t hf hc)
                refine lv_iconst (v := 1) hx hb dX12_hasNeedle_46 (by decide) ?_
                refine lv_goto (tgt := 51) hx hb dX12_hasNeedle_47 (by decide) ?_
                refine W.eq (g2 := F0 m 51 ls [.int (bI true)]) rfl ?_
                exact (OB_some hf) _ _ _ hP hS (lv_sub hl [0, 1, 3] rfl)
def rm_X12_pole : Room := { frames := 3, cells := 0, slots := 0, locals := 72 }
set_option maxRecDepth 100000 in
set_option maxHeartbeats 8000000 in
theorem c_X12_pole {l : Launch} {G : GG} {a1 : Int32} {a2 : Int32} {a3 : Int32} {a4 : Int32} {M : Mem} {h : Int64}  {P9 : Int32 → Prop} (hf : OB (f_X12_pole a1 a2 a3 a4 M) P9) : Met1 l yX12_pole cX12_pole 10 (some .int) rm_X12_pole G [.ref (xa G 132), .int a1, .int a2, .int a3, .int a4] M h (QI0 G M h P9) := by
  unfold f_X12_pole at hf
  refine xm_i0 (by decide) (Nat.le_of_ble_eq_true rfl) ?_
  intro p e s m args below meth c ls Q C hE hret hP hS hl
  have C : CallFix p m c cX12_pole 10 s args TB RX12 := C
  have hx := C.1
  have hb := C.2.1
  have hl : lv_has ls 10 [(0, .ref (xa G 132)), (1, .int a1), (2, .int a2), (3, .int a3), (4, .int a4)] := hl
  refine lv_iload_n hx hb dX12_pole_0 rfl (lv_at hl 1 rfl) ?_
  refine lv_iconst (v := -1) hx hb dX12_pole_1 (by decide) ?_
  have hj12 : ∀ (H : Heap) (locs : List Loc) (ls : Array Slot), OB (f_X12_pole_j12_2 a1 a2 a3 a4 M) P9 → va_P G.1 vwCl (wl G M h) H → va_S (Aw G) s.heap H locs → lv_has ls 10 [(0, .ref (xa G 132)), (1, .int a1), (2, .int a2), (3, .int a3), (4, .int a4)] → W p l e rm_X12_pole s m args below meth c H locs 0 0 Q (F0 m 12 ls []) := by
    intro  H locs ls hf hP hS hl
    refine lv_iload_n hx hb dX12_pole_12 rfl (lv_at hl 2 rfl) ?_
    refine lv_iconst (v := -1) hx hb dX12_pole_13 (by decide) ?_
    have hj27 : ∀ (H : Heap) (locs : List Loc) (ls : Array Slot), OB (f_X12_pole_j27_1 a1 a2 a3 a4 M) P9 → va_P G.1 vwCl (wl G M h) H → va_S (Aw G) s.heap H locs → lv_has ls 10 [(0, .ref (xa G 132)), (1, .int a1), (2, .int a2), (3, .int a3), (4, .int a4)] → W p l e rm_X12_pole s m args below meth c H locs 0 0 Q (F0 m 27 ls []) := by
      intro  H locs ls hf hP hS hl
      refine lv_iload_n hx hb dX12_pole_27 rfl (lv_at hl 3 rfl) ?_
      refine lv_i2l hx hb dX12_pole_28 rfl ?_
      refine lv_lconst (v := 0) hx hb dX12_pole_29 (by decide) ?_
      refine lv_ldc2 hx hb C.2.2.2.1 (C.2.2.2.2 _ ckX12_114) dX12_pole_30 ?_
      refine x_cz0 (rest := []) (x_runS C hE hP hS ykX12_in lkX12_92 (c_X12_in (OB_bind hf)) (by decide) rfl hl.1 (Nat.le_of_ble_eq_true rfl) dX12_pole_33) hS (fun r331 H locs hf hP hS => ?_)
      refine lv_if_eq (tgt := 52) hx hb dX12_pole_36 (by decide) (fun hc => ?_) (fun hc => ?_)
      · have hf := (OB_f hf (bI_f hc))
        refine lv_bipush (v := -102) hx hb dX12_pole_52 (by decide) ?_
        exact hret _ _ _ _ _ (OB_some hf) hP hS dX12_pole_54
      · have hf := (OB_t hf (bI_t hc))
        refine lv_iload hx hb dX12_pole_39 (lv_at hl 4 rfl) ?_
        refine lv_i2l hx hb dX12_pole_41 rfl ?_
        refine lv_lconst (v := 0) hx hb dX12_pole_42 (by decide) ?_
        refine lv_ldc2 hx hb C.2.2.2.1 (C.2.2.2.2 _ ckX12_118) dX12_pole_43 ?_
        refine x_cz0 (rest := []) (x_runS C hE hP hS ykX12_in lkX12_92 (c_X12_in (OB_bind hf)) (by decide) rfl hl.1 (Nat.le_of_ble_eq_true rfl) dX12_pole_46) hS (fun r332 H locs hf hP hS => ?_)
        refine lv_if_ne (tgt := 55) hx hb dX12_pole_49 (by decide) (fun hc => ?_) (fun hc => ?_)
        · have hf := (OB_t hf (bI_t hc))
          refine lv_aload_n hx hb dX12_pole_55 rfl (lv_at hl 0 rfl) ?_
          refine lv_iload_n hx hb dX12_pole_56 rfl (lv_at hl 1 rfl) ?_
          refine x_cz0 (rest := []) (x_runV C hE hP hS ykX12_hasNeedle lkX12_329 sh132 rfl (c_X12_hasNeedle (OB_bind hf)) (by decide) rfl hl.1 (Nat.le_of_ble_eq_true rfl) dX12_pole_57) hS (fun r333 H locs hf hP hS => ?_)
          refine lv_if_ne (tgt := 74) hx hb dX12_pole_60 (by decide) (fun hc => ?_) (fun hc => ?_)
          · have hf := (OB_t hf (bI_t hc))
            refine lv_iconst (v := -1) hx hb dX12_pole_74 (by decide) ?_
            refine lv_istore (lv' := [(5, .int (-1)), (0, .ref (xa G 132)), (1, .int a1), (2, .int a2), (3, .int a3), (4, .int a4)]) hx hb dX12_pole_75 hl (by decide) rfl (fun ls hl => ?_)
            refine lv_iconst (v := -1) hx hb dX12_pole_77 (by decide) ?_
            refine lv_istore (lv' := [(6, .int (-1)), (5, .int (-1)), (0, .ref (xa G 132)), (1, .int a1), (2, .int a2), (3, .int a3), (4, .int a4)]) hx hb dX12_pole_78 hl (by decide) rfl (fun ls hl => ?_)
            refine lv_iconst (v := 0) hx hb dX12_pole_80 (by decide) ?_
            refine lv_istore (lv' := [(7, .int 0), (6, .int (-1)), (5, .int (-1)), (0, .ref (xa G 132)), (1, .int a1), (2, .int a2), (3, .int a3), (4, .int a4)]) hx hb dX12_pole_81 hl (by decide) rfl (fun ls hl => ?_)
            refine lv_iconst (v := 0) hx hb dX12_pole_83 (by decide) ?_
            refine lv_istore (lv' := [(8, .int 0), (7, .int 0), (6, .int (-1)), (5, .int (-1)), (0, .ref (xa G 132)), (1, .int a1), (2, .int a2), (3, .int a3), (4, .int a4)]) hx hb dX12_pole_84 hl (by decide) rfl (fun ls hl => ?_)
            refine xj (fun (zz : (Int32 × Int32 × Int32)) => match zz with | (x362, x363, x364) => ∀ (H : Heap) (locs : List Loc) (ls : Array Slot), va_P G.1 vwCl (wl G M h) H → va_S (Aw G) s.heap H locs → lv_has ls 10 [(4, .int a4), (5, .int x362), (6, .int x363), (7, .int x364)] → W p l e rm_X12_pole s m args below meth c H locs 0 0 Q (F0 m 172 ls [])) hf ?_ (fun hf => ?_)
            · rintro ⟨x362, x363, x364⟩ hf H locs ls hP hS hl
              refine lv_iload hx hb dX12_pole_172 (lv_at hl 0 rfl) ?_
              refine xj (fun (x369 : Int32) => ∀ (H : Heap) (locs : List Loc) (ls : Array Slot), va_P G.1 vwCl (wl G M h) H → va_S (Aw G) s.heap H locs → lv_has ls 10 [] → W p l e rm_X12_pole s m args below meth c H locs 0 0 Q (F0 m 195 ls [.int x369])) hf ?_ (fun hf => ?_)
              · rintro x369 hf H locs ls hP hS hl
                exact hret _ _ _ _ _ (OB_some hf) hP hS dX12_pole_195
              · skip
                refine lv_if_ne (tgt := 182) hx hb dX12_pole_174 (by decide) (fun hc => ?_) (fun hc => ?_)
                · have hf := (OB_f hf hc)
                  refine lv_iload hx hb dX12_pole_182 (lv_at hl 0 rfl) ?_
                  refine lv_iconst (v := 1) hx hb dX12_pole_184 (by decide) ?_
                  refine lv_icmp_ne (tgt := 193) hx hb dX12_pole_185 (by decide) (fun hc => ?_) (fun hc => ?_)
                  · have hf := (OB_f hf hc)
                    refine lv_iload hx hb dX12_pole_193 (lv_at hl 3 rfl) ?_
                    exact (OB_some hf) _ _ _ hP hS (lv_sub hl [] rfl)
                  · have hf := (OB_t hf hc)
                    refine lv_iload hx hb dX12_pole_188 (lv_at hl 2 rfl) ?_
                    refine lv_goto (tgt := 195) hx hb dX12_pole_190 (by decide) ?_
                    exact (OB_some hf) _ _ _ hP hS (lv_sub hl [] rfl)
                · have hf := (OB_t hf hc)
                  refine lv_iload hx hb dX12_pole_177 (lv_at hl 1 rfl) ?_
                  refine lv_goto (tgt := 195) hx hb dX12_pole_179 (by decide) ?_
                  exact (OB_some hf) _ _ _ hP hS (lv_sub hl [] rfl)
            · refine (it_W (fun (zz : (Int32 × Int32 × Int32 × Int32)) => match zz with | (x358, x359, x360, x361) => ∀ (H : Heap) (locs : List Loc) (ls : Array Slot), va_P G.1 vwCl (wl G M h) H → va_S (Aw G) s.heap H locs → lv_has ls 10 [(0, .ref (xa G 132)), (1, .int a1), (2, .int a2), (3, .int a3), (4, .int a4), (5, .int x358), (6, .int x359), (7, .int x360), (8, .int x361)] → W p l e rm_X12_pole s m args below meth c H locs 0 0 Q (F0 m 86 ls [])) hf ?_) _ _ _ hP hS (lv_sub hl [4, 5, 6, 7, 8, 3, 2, 1, 0] rfl)
              rintro ⟨x358, x359, x360, x361⟩ hf H locs ls hP hS hl
              unfold f_X12_pole_b86 at hf
              refine lv_iload hx hb dX12_pole_86 (lv_at hl 8 rfl) ?_
              refine lv_sipush (v := 128) hx hb dX12_pole_88 (by decide) ?_
              refine lv_icmp_ge (tgt := 172) hx hb dX12_pole_91 (by decide) (fun hc => ?_) (fun hc => ?_)
              · have hf := (OB_t hf hc)
                exact (it_e hf) _ _ _ hP hS (lv_sub hl [4, 5, 6, 7] rfl)
              · have hf := (OB_f hf hc)
                refine lv_aload_n hx hb dX12_pole_94 rfl (lv_at hl 0 rfl) ?_
                refine lv_iload_n hx hb dX12_pole_95 rfl (lv_at hl 1 rfl) ?_
                refine lv_iload_n hx hb dX12_pole_96 rfl (lv_at hl 2 rfl) ?_
                refine lv_iload_n hx hb dX12_pole_97 rfl (lv_at hl 3 rfl) ?_
                refine lv_iload hx hb dX12_pole_98 (lv_at hl 8 rfl) ?_
                refine x_ci0 (rest := []) (x_runV C hE hP hS ykX12_agreeAt lkX12_332 sh132 rfl (c_X12_agreeAt (OB_bind hf)) (by decide) rfl hl.1 (Nat.le_of_ble_eq_true rfl) dX12_pole_100) hS (fun r365 H locs hf hP hS => ?_)
                refine lv_istore (lv' := [(9, .int r365), (0, .ref (xa G 132)), (1, .int a1), (2, .int a2), (3, .int a3), (4, .int a4), (5, .int x358), (6, .int x359), (7, .int x360), (8, .int x361)]) hx hb dX12_pole_103 hl (by decide) rfl (fun ls hl => ?_)
                refine lv_iload hx hb dX12_pole_105 (lv_at hl 0 rfl) ?_
                refine lv_iload hx hb dX12_pole_107 (lv_at hl 7 rfl) ?_
                refine xj (fun (x366 : Int32) => ∀ (H : Heap) (locs : List Loc) (ls : Array Slot), va_P G.1 vwCl (wl G M h) H → va_S (Aw G) s.heap H locs → lv_has ls 10 [(0, .ref (xa G 132)), (1, .int a1), (2, .int a2), (3, .int a3), (4, .int a4), (5, .int x358), (6, .int x359), (8, .int x361), (9, .int r365)] → W p l e rm_X12_pole s m args below meth c H locs 0 0 Q (F0 m 132 ls [.int x366])) hf ?_ (fun hf => ?_)
                · rintro x366 hf H locs ls hP hS hl
                  refine lv_istore (lv' := [(7, .int x366), (0, .ref (xa G 132)), (1, .int a1), (2, .int a2), (3, .int a3), (4, .int a4), (5, .int x358), (6, .int x359), (8, .int x361), (9, .int r365)]) hx hb dX12_pole_132 hl (by decide) rfl (fun ls hl => ?_)
                  refine lv_iload hx hb dX12_pole_134 (lv_at hl 9 rfl) ?_
                  refine lv_iload hx hb dX12_pole_136 (lv_at hl 7 rfl) ?_
                  refine xj (fun (x367 : Int32) => ∀ (H : Heap) (locs : List Loc) (ls : Array Slot), va_P G.1 vwCl (wl G M h) H → va_S (Aw G) s.heap H locs → lv_has ls 10 [(0, .ref (xa G 132)), (1, .int a1), (2, .int a2), (3, .int a3), (4, .int a4), (6, .int x359), (7, .int x366), (8, .int x361), (9, .int r365)] → W p l e rm_X12_pole s m args below meth c H locs 0 0 Q (F0 m 148 ls [.int x367])) hf ?_ (fun hf => ?_)
                  · rintro x367 hf H locs ls hP hS hl
                    refine lv_istore (lv' := [(5, .int x367), (0, .ref (xa G 132)), (1, .int a1), (2, .int a2), (3, .int a3), (4, .int a4), (6, .int x359), (7, .int x366), (8, .int x361), (9, .int r365)]) hx hb dX12_pole_148 hl (by decide) rfl (fun ls hl => ?_)
                    refine lv_iload hx hb dX12_pole_150 (lv_at hl 9 rfl) ?_
                    refine lv_iload hx hb dX12_pole_152 (lv_at hl 6 rfl) ?_
                    refine xj (fun (x368 : Int32) => ∀ (H : Heap) (locs : List Loc) (ls : Array Slot), va_P G.1 vwCl (wl G M h) H → va_S (Aw G) s.heap H locs → lv_has ls 10 [(0, .ref (xa G 132)), (1, .int a1), (2, .int a2), (3, .int a3), (4, .int a4), (5, .int x367), (7, .int x366), (8, .int x361)] → W p l e rm_X12_pole s m args below meth c H locs 0 0 Q (F0 m 164 ls [.int x368])) hf ?_ (fun hf => ?_)
                    · rintro x368 hf H locs ls hP hS hl
                      refine lv_istore (lv' := [(6, .int x368), (0, .ref (xa G 132)), (1, .int a1), (2, .int a2), (3, .int a3), (4, .int a4), (5, .int x367), (7, .int x366), (8, .int x361)]) hx hb dX12_pole_164 hl (by decide) rfl (fun ls hl => ?_)
                      refine lv_iinc (v := (x361 + 1)) (lv' := [(8, .int (x361 + 1)), (6, .int x368), (0, .ref (xa G 132)), (1, .int a1), (2, .int a2), (3, .int a3), (4, .int a4), (5, .int x367), (7, .int x366)]) hx hb dX12_pole_166 hl (k := 8) rfl rfl (by decide) rfl (fun ls hl => ?_)
                      refine lv_goto (tgt := 86) hx hb dX12_pole_169 (by decide) ?_
                      exact (it_c hf) _ _ _ hP hS (lv_sub hl [2, 3, 4, 5, 6, 7, 1, 8, 0] rfl)
                    · skip
                      refine lv_icmp_le (tgt := 162) hx hb dX12_pole_154 (by decide) (fun hc => ?_) (fun hc => ?_)
                      · have hf := (OB_t hf hc)
                        refine lv_iload hx hb dX12_pole_162 (lv_at hl 6 rfl) ?_
                        exact (OB_some hf) _ _ _ hP hS (lv_sub hl [1, 2, 3, 4, 5, 0, 7, 8] rfl)
                      · have hf := (OB_f hf hc)
                        refine lv_iload hx hb dX12_pole_157 (lv_at hl 9 rfl) ?_
                        refine lv_goto (tgt := 164) hx hb dX12_pole_159 (by decide) ?_
                        exact (OB_some hf) _ _ _ hP hS (lv_sub hl [1, 2, 3, 4, 5, 0, 7, 8] rfl)
                  · skip
                    refine lv_icmp_le (tgt := 146) hx hb dX12_pole_138 (by decide) (fun hc => ?_) (fun hc => ?_)
                    · have hf := (OB_t hf hc)
                      refine lv_iload hx hb dX12_pole_146 (lv_at hl 6 rfl) ?_
                      exact (OB_some hf) _ _ _ hP hS (lv_sub hl [1, 2, 3, 4, 5, 7, 0, 8, 9] rfl)
                    · have hf := (OB_f hf hc)
                      refine lv_iload hx hb dX12_pole_141 (lv_at hl 8 rfl) ?_
                      refine lv_goto (tgt := 148) hx hb dX12_pole_143 (by decide) ?_
                      exact (OB_some hf) _ _ _ hP hS (lv_sub hl [1, 2, 3, 4, 5, 7, 0, 8, 9] rfl)
                · skip
                  refine lv_icmp_le (tgt := 116) hx hb dX12_pole_109 (by decide) (fun hc => ?_) (fun hc => ?_)
                  · have hf := (OB_t hf hc)
                    refine lv_iload hx hb dX12_pole_116 (lv_at hl 0 rfl) ?_
                    refine lv_iload hx hb dX12_pole_118 (lv_at hl 7 rfl) ?_
                    refine lv_icmp_ne (tgt := 130) hx hb dX12_pole_120 (by decide) (fun hc => ?_) (fun hc => ?_)
                    · have hf := (OB_f hf hc)
                      refine lv_iload hx hb dX12_pole_130 (lv_at hl 8 rfl) ?_
                      exact (OB_some hf) _ _ _ hP hS (lv_sub hl [1, 2, 3, 4, 5, 6, 7, 9, 0] rfl)
                    · have hf := (OB_t hf hc)
                      refine lv_iload hx hb dX12_pole_123 (lv_at hl 8 rfl) ?_
                      refine lv_iconst (v := 1) hx hb dX12_pole_125 (by decide) ?_
                      refine lv_iadd hx hb dX12_pole_126 ?_
                      refine lv_goto (tgt := 132) hx hb dX12_pole_127 (by decide) ?_
                      exact (OB_some hf) _ _ _ hP hS (lv_sub hl [1, 2, 3, 4, 5, 6, 7, 9, 0] rfl)
                  · have hf := (OB_f hf hc)
                    refine lv_iconst (v := 1) hx hb dX12_pole_112 (by decide) ?_
                    refine lv_goto (tgt := 132) hx hb dX12_pole_113 (by decide) ?_
                    exact (OB_some hf) _ _ _ hP hS (lv_sub hl [1, 2, 3, 4, 5, 6, 7, 9, 0] rfl)
          · have hf := (OB_f hf (bI_f hc))
            refine lv_iload hx hb dX12_pole_63 (lv_at hl 4 rfl) ?_
            refine xj (fun (x370 : Int32) => ∀ (H : Heap) (locs : List Loc) (ls : Array Slot), va_P G.1 vwCl (wl G M h) H → va_S (Aw G) s.heap H locs → lv_has ls 10 [] → W p l e rm_X12_pole s m args below meth c H locs 0 0 Q (F0 m 73 ls [.int x370])) hf ?_ (fun hf => ?_)
            · rintro x370 hf H locs ls hP hS hl
              exact hret _ _ _ _ _ (OB_some hf) hP hS dX12_pole_73
            · skip
              refine lv_if_ne (tgt := 72) hx hb dX12_pole_65 (by decide) (fun hc => ?_) (fun hc => ?_)
              · have hf := (OB_f hf hc)
                refine lv_iconst (v := 0) hx hb dX12_pole_72 (by decide) ?_
                exact (OB_some hf) _ _ _ hP hS (lv_sub hl [] rfl)
              · have hf := (OB_t hf hc)
                refine lv_iconst (v := -1) hx hb dX12_pole_68 (by decide) ?_
                refine lv_goto (tgt := 73) hx hb dX12_pole_69 (by decide) ?_
                exact (OB_some hf) _ _ _ hP hS (lv_sub hl [] rfl)
        · have hf := (OB_f hf (bI_f hc))
          refine lv_bipush (v := -102) hx hb dX12_pole_52 (by decide) ?_
          exact hret _ _ _ _ _ (OB_some hf) hP hS dX12_pole_54
    refine lv_icmp_eq (tgt := 27) hx hb dX12_pole_14 (by decide) (fun hc => ?_) (fun hc => ?_)
    · have hf := (OB_t hf hc)
      exact hj27  _ _ _ hf hP hS (lv_sub hl [0, 1, 2, 3, 4] rfl)
    · have hf := (OB_f hf hc)
      refine lv_iload_n hx hb dX12_pole_17 rfl (lv_at hl 2 rfl) ?_
      refine x_cz0 (rest := []) (x_runS C hE hP hS ykX12_isLand lkX12_101 (c_X12_isLand (OB_bind hf)) (by decide) rfl hl.1 (Nat.le_of_ble_eq_true rfl) dX12_pole_18) hS (fun r371 H locs hf hP hS => ?_)
      refine lv_if_ne (tgt := 27) hx hb dX12_pole_21 (by decide) (fun hc => ?_) (fun hc => ?_)
      · have hf := (OB_t hf (bI_t hc))
        exact hj27  _ _ _ hf hP hS (lv_sub hl [0, 1, 2, 3, 4] rfl)
      · have hf := (OB_f hf (bI_f hc))
        refine lv_bipush (v := -101) hx hb dX12_pole_24 (by decide) ?_
        exact hret _ _ _ _ _ (OB_some hf) hP hS dX12_pole_26
  refine lv_icmp_eq (tgt := 12) hx hb dX12_pole_2 (by decide) (fun hc => ?_) (fun hc => ?_)
  · have hf := (OB_t hf hc)
    exact hj12  _ _ _ hf hP hS (lv_sub hl [0, 1, 2, 3, 4] rfl)
  · have hf := (OB_f hf hc)
    refine lv_iload_n hx hb dX12_pole_5 rfl (lv_at hl 1 rfl) ?_
    refine x_cz0 (rest := []) (x_runS C hE hP hS ykX12_isLand lkX12_101 (c_X12_isLand (OB_bind hf)) (by decide) rfl hl.1 (Nat.le_of_ble_eq_true rfl) dX12_pole_6) hS (fun r372 H locs hf hP hS => ?_)
    refine lv_if_eq (tgt := 24) hx hb dX12_pole_9 (by decide) (fun hc => ?_) (fun hc => ?_)
    · have hf := (OB_f hf (bI_f hc))
      refine lv_bipush (v := -101) hx hb dX12_pole_24 (by decide) ?_
      exact hret _ _ _ _ _ (OB_some hf) hP hS dX12_pole_26
    · have hf := (OB_t hf (bI_t hc))
      exact hj12  _ _ _ hf hP hS (lv_sub hl [0, 1, 2, 3, 4] rfl)
def rm_X12_floor : Room := { frames := 1, cells := 0, slots := 0, locals := 25 }
set_option maxRecDepth 100000 in
set_option maxHeartbeats 8000000 in
theorem c_X12_floor {l : Launch} {G : GG} {a1 : Int32} {M : Mem} {h : Int64}  {P9 : (Int32 × Mem) → Prop} (hf : OB (f_X12_floor a1 M) P9) : Met1 l yX12_floor cX12_floor 3 (some .int) rm_X12_floor G [.ref (xa G 132), .int a1] M h (QI1 G h P9) := by
  unfold f_X12_floor at hf
  refine xm_i1 (by decide) (Nat.le_of_ble_eq_true rfl) ?_
  intro p e s m args below meth c ls Q C hE hret hP hS hl
  have C : CallFix p m c cX12_floor 3 s args TB RX12 := C
  have hx := C.1
  have hb := C.2.1
  have hl : lv_has ls 3 [(0, .ref (xa G 132)), (1, .int a1)] := hl
  refine lv_iload_n hx hb dX12_floor_0 rfl (lv_at hl 1 rfl) ?_
  refine lv_i2l hx hb dX12_floor_1 rfl ?_
  refine lv_lconst (v := 0) hx hb dX12_floor_2 (by decide) ?_
  refine lv_ldc2 hx hb C.2.2.2.1 (C.2.2.2.2 _ ckX12_335) dX12_floor_3 ?_
  refine x_cz0 (rest := []) (x_runS C hE hP hS ykX12_in lkX12_92 (c_X12_in (OB_bind hf)) (by decide) rfl hl.1 (Nat.le_of_ble_eq_true rfl) dX12_floor_6) hS (fun r1 H locs hf hP hS => ?_)
  refine lv_if_ne (tgt := 15) hx hb dX12_floor_9 (by decide) (fun hc => ?_) (fun hc => ?_)
  · have hf := (OB_t hf (bI_t hc))
    refine lv_aload_n hx hb dX12_floor_15 rfl (lv_at hl 0 rfl) ?_
    refine gfX12_337 C hE hP dX12_floor_16 ?_
    refine lv_istore_n (lv' := [(2, .int (M 132 41)), (0, .ref (xa G 132)), (1, .int a1)]) hx hb dX12_floor_19 rfl hl (by decide) rfl (fun ls hl => ?_)
    refine lv_aload_n hx hb dX12_floor_20 rfl (lv_at hl 1 rfl) ?_
    refine lv_iload_n hx hb dX12_floor_21 rfl (lv_at hl 2 rfl) ?_
    refine pfX12_337 C hE hP hS dX12_floor_22 (fun H locs hP hS => ?_)
    refine lv_iload_n hx hb dX12_floor_25 rfl (lv_at hl 0 rfl) ?_
    exact hret _ _ _ _ _ _ (OB_some hf) hP hS dX12_floor_26
  · have hf := (OB_f hf (bI_f hc))
    refine lv_bipush (v := -102) hx hb dX12_floor_12 (by decide) ?_
    exact hret _ _ _ _ _ _ (OB_some hf) hP hS dX12_floor_14
def rm_X12_mirrorOf : Room := { frames := 0, cells := 0, slots := 0, locals := 0 }
set_option maxRecDepth 100000 in
set_option maxHeartbeats 8000000 in
theorem c_X12_mirrorOf {l : Launch} {G : GG} {a1 : Int32} {M : Mem} {h : Int64}  {P9 : Int32 → Prop} (hf : OB (f_X12_mirrorOf a1 M) P9) : Met1 l yX12_mirrorOf cX12_mirrorOf 3 (some .int) rm_X12_mirrorOf G [.ref (xa G 132), .int a1] M h (QI0 G M h P9) := by
  unfold f_X12_mirrorOf at hf
  refine xm_i0 (by decide) (Nat.le_of_ble_eq_true rfl) ?_
  intro p e s m args below meth c ls Q C hE hret hP hS hl
  have C : CallFix p m c cX12_mirrorOf 3 s args TB RX12 := C
  have hx := C.1
  have hb := C.2.1
  have hl : lv_has ls 3 [(0, .ref (xa G 132)), (1, .int a1)] := hl
  refine lv_iconst (v := 0) hx hb dX12_mirrorOf_0 (by decide) ?_
  refine lv_istore_n (lv' := [(2, .int 0), (0, .ref (xa G 132)), (1, .int a1)]) hx hb dX12_mirrorOf_1 rfl hl (by decide) rfl (fun ls hl => ?_)
  refine xj (fun (x5 : Int32) => ∀ (H : Heap) (locs : List Loc) (ls : Array Slot), va_P G.1 vwCl (wl G M h) H → va_S (Aw G) s.heap H locs → lv_has ls 3 [(2, .int x5)] → W p l e rm_X12_mirrorOf s m args below meth c H locs 0 0 Q (F0 m 49 ls [])) hf ?_ (fun hf => ?_)
  · rintro x5 hf H locs ls hP hS hl
    refine lv_iload_n hx hb dX12_mirrorOf_49 rfl (lv_at hl 0 rfl) ?_
    exact hret _ _ _ _ _ (OB_some hf) hP hS dX12_mirrorOf_50
  · refine (it_W (fun (x4 : Int32) => ∀ (H : Heap) (locs : List Loc) (ls : Array Slot), va_P G.1 vwCl (wl G M h) H → va_S (Aw G) s.heap H locs → lv_has ls 3 [(0, .ref (xa G 132)), (1, .int a1), (2, .int x4)] → W p l e rm_X12_mirrorOf s m args below meth c H locs 0 0 Q (F0 m 2 ls [])) hf ?_) _ _ _ hP hS (lv_sub hl [1, 2, 0] rfl)
    rintro x4 hf H locs ls hP hS hl
    unfold f_X12_mirrorOf_b2 at hf
    refine lv_iload_n hx hb dX12_mirrorOf_2 rfl (lv_at hl 1 rfl) ?_
    refine lv_iconst (v := 1) hx hb dX12_mirrorOf_3 (by decide) ?_
    refine lv_isub hx hb dX12_mirrorOf_4 ?_
    refine lv_iload_n hx hb dX12_mirrorOf_5 rfl (lv_at hl 2 rfl) ?_
    refine lv_isub hx hb dX12_mirrorOf_6 ?_
    refine lv_if_lt (tgt := 49) hx hb dX12_mirrorOf_7 (by decide) (fun hc => ?_) (fun hc => ?_)
    · have hf := (OB_t hf hc)
      exact (it_e hf) _ _ _ hP hS (lv_sub hl [2] rfl)
    · have hf := (OB_f hf hc)
      refine lv_iload_n hx hb dX12_mirrorOf_10 rfl (lv_at hl 1 rfl) ?_
      refine lv_iload_n hx hb dX12_mirrorOf_11 rfl (lv_at hl 2 rfl) ?_
      refine lv_iadd hx hb dX12_mirrorOf_12 ?_
      refine lv_bipush (v := 24) hx hb dX12_mirrorOf_13 (by decide) ?_
      refine lv_icmp_ge (tgt := 49) hx hb dX12_mirrorOf_15 (by decide) (fun hc => ?_) (fun hc => ?_)
      · have hf := (OB_t hf hc)
        exact (it_e hf) _ _ _ hP hS (lv_sub hl [2] rfl)
      · have hf := (OB_f hf hc)
        refine lv_aload_n hx hb dX12_mirrorOf_18 rfl (lv_at hl 0 rfl) ?_
        refine gfX12_337 C hE hP dX12_mirrorOf_19 ?_
        refine lv_iload_n hx hb dX12_mirrorOf_22 rfl (lv_at hl 1 rfl) ?_
        refine lv_iconst (v := 1) hx hb dX12_mirrorOf_23 (by decide) ?_
        refine lv_isub hx hb dX12_mirrorOf_24 ?_
        refine lv_iload_n hx hb dX12_mirrorOf_25 rfl (lv_at hl 2 rfl) ?_
        refine lv_isub hx hb dX12_mirrorOf_26 ?_
        refine x_ishr C dX12_mirrorOf_27 ?_
        refine lv_iconst (v := 1) hx hb dX12_mirrorOf_28 (by decide) ?_
        refine lv_iand hx hb dX12_mirrorOf_29 ?_
        refine lv_aload_n hx hb dX12_mirrorOf_30 rfl (lv_at hl 0 rfl) ?_
        refine gfX12_337 C hE hP dX12_mirrorOf_31 ?_
        refine lv_iload_n hx hb dX12_mirrorOf_34 rfl (lv_at hl 1 rfl) ?_
        refine lv_iload_n hx hb dX12_mirrorOf_35 rfl (lv_at hl 2 rfl) ?_
        refine lv_iadd hx hb dX12_mirrorOf_36 ?_
        refine x_ishr C dX12_mirrorOf_37 ?_
        refine lv_iconst (v := 1) hx hb dX12_mirrorOf_38 (by decide) ?_
        refine lv_iand hx hb dX12_mirrorOf_39 ?_
        refine lv_icmp_ne (tgt := 49) hx hb dX12_mirrorOf_40 (by decide) (fun hc => ?_) (fun hc => ?_)
        · have hf := (OB_f hf hc)
          exact (it_e hf) _ _ _ hP hS (lv_sub hl [2] rfl)
        · have hf := (OB_t hf hc)
          refine lv_iinc (v := (x4 + 1)) (lv' := [(2, .int (x4 + 1)), (0, .ref (xa G 132)), (1, .int a1)]) hx hb dX12_mirrorOf_43 hl (k := 2) rfl rfl (by decide) rfl (fun ls hl => ?_)
          refine lv_goto (tgt := 2) hx hb dX12_mirrorOf_46 (by decide) ?_
          exact (it_c hf) _ _ _ hP hS (lv_sub hl [1, 2, 0] rfl)
def rm_X12_mirror : Room := { frames := 1, cells := 0, slots := 0, locals := 25 }
set_option maxRecDepth 100000 in
set_option maxHeartbeats 8000000 in
theorem c_X12_mirror {l : Launch} {G : GG} {a1 : Int32} {M : Mem} {h : Int64}  {P9 : Int32 → Prop} (hf : OB (f_X12_mirror a1 M) P9) : Met1 l yX12_mirror cX12_mirror 2 (some .int) rm_X12_mirror G [.ref (xa G 132), .int a1] M h (QI0 G M h P9) := by
  unfold f_X12_mirror at hf
  refine xm_i0 (by decide) (Nat.le_of_ble_eq_true rfl) ?_
  intro p e s m args below meth c ls Q C hE hret hP hS hl
  have C : CallFix p m c cX12_mirror 2 s args TB RX12 := C
  have hx := C.1
  have hb := C.2.1
  have hl : lv_has ls 2 [(0, .ref (xa G 132)), (1, .int a1)] := hl
  refine lv_iload_n hx hb dX12_mirror_0 rfl (lv_at hl 1 rfl) ?_
  refine lv_i2l hx hb dX12_mirror_1 rfl ?_
  refine lv_lconst (v := 1) hx hb dX12_mirror_2 (by decide) ?_
  refine lv_ldc2 hx hb C.2.2.2.1 (C.2.2.2.2 _ ckX12_340) dX12_mirror_3 ?_
  refine x_cz0 (rest := []) (x_runS C hE hP hS ykX12_in lkX12_92 (c_X12_in (OB_bind hf)) (by decide) rfl hl.1 (Nat.le_of_ble_eq_true rfl) dX12_mirror_6) hS (fun r1 H locs hf hP hS => ?_)
  refine xj (fun (x4 : Int32) => ∀ (H : Heap) (locs : List Loc) (ls : Array Slot), va_P G.1 vwCl (wl G M h) H → va_S (Aw G) s.heap H locs → lv_has ls 2 [] → W p l e rm_X12_mirror s m args below meth c H locs 0 0 Q (F0 m 22 ls [.int x4])) hf ?_ (fun hf => ?_)
  · rintro x4 hf H locs ls hP hS hl
    exact hret _ _ _ _ _ (OB_some hf) hP hS dX12_mirror_22
  · skip
    refine lv_if_eq (tgt := 20) hx hb dX12_mirror_9 (by decide) (fun hc => ?_) (fun hc => ?_)
    · have hf := (OB_f hf (bI_f hc))
      refine lv_bipush (v := -102) hx hb dX12_mirror_20 (by decide) ?_
      exact (OB_some hf) _ _ _ hP hS (lv_sub hl [] rfl)
    · have hf := (OB_t hf (bI_t hc))
      refine lv_aload_n hx hb dX12_mirror_12 rfl (lv_at hl 0 rfl) ?_
      refine lv_iload_n hx hb dX12_mirror_13 rfl (lv_at hl 1 rfl) ?_
      refine x_ci0 (rest := []) (x_runV C hE hP hS ykX12_mirrorOf lkX12_342 sh132 rfl (c_X12_mirrorOf (OB_bind hf)) (by decide) rfl hl.1 (Nat.le_of_ble_eq_true rfl) dX12_mirror_14) hS (fun r5 H locs hf hP hS => ?_)
      refine lv_goto (tgt := 22) hx hb dX12_mirror_17 (by decide) ?_
      exact (OB_some hf) _ _ _ hP hS (lv_sub hl [] rfl)
def rm_X12_ridgeOf : Room := { frames := 1, cells := 0, slots := 0, locals := 22 }
set_option maxRecDepth 100000 in
set_option maxHeartbeats 8000000 in
theorem c_X12_ridgeOf {l : Launch} {G : GG}  {M : Mem} {h : Int64}  {P9 : Int32 → Prop} (hf : OB (f_X12_ridgeOf M) P9) : Met1 l yX12_ridgeOf cX12_ridgeOf 4 (some .int) rm_X12_ridgeOf G [.ref (xa G 132)] M h (QI0 G M h P9) := by
  unfold f_X12_ridgeOf at hf
  refine xm_i0 (by decide) (Nat.le_of_ble_eq_true rfl) ?_
  intro p e s m args below meth c ls Q C hE hret hP hS hl
  have C : CallFix p m c cX12_ridgeOf 4 s args TB RX12 := C
  have hx := C.1
  have hb := C.2.1
  have hl : lv_has ls 4 [(0, .ref (xa G 132))] := hl
  refine lv_iconst (v := 1) hx hb dX12_ridgeOf_0 (by decide) ?_
  refine lv_istore_n (lv' := [(1, .int 1), (0, .ref (xa G 132))]) hx hb dX12_ridgeOf_1 rfl hl (by decide) rfl (fun ls hl => ?_)
  refine lv_iconst (v := 2) hx hb dX12_ridgeOf_2 (by decide) ?_
  refine lv_istore_n (lv' := [(2, .int 2), (1, .int 1), (0, .ref (xa G 132))]) hx hb dX12_ridgeOf_3 rfl hl (by decide) rfl (fun ls hl => ?_)
  refine xj (fun (x36 : Int32) => ∀ (H : Heap) (locs : List Loc) (ls : Array Slot), va_P G.1 vwCl (wl G M h) H → va_S (Aw G) s.heap H locs → lv_has ls 4 [(1, .int x36)] → W p l e rm_X12_ridgeOf s m args below meth c H locs 0 0 Q (F0 m 57 ls [])) hf ?_ (fun hf => ?_)
  · rintro x36 hf H locs ls hP hS hl
    refine lv_iload_n hx hb dX12_ridgeOf_57 rfl (lv_at hl 0 rfl) ?_
    exact hret _ _ _ _ _ (OB_some hf) hP hS dX12_ridgeOf_58
  · refine (it_W (fun (zz : (Int32 × Int32)) => match zz with | (x34, x35) => ∀ (H : Heap) (locs : List Loc) (ls : Array Slot), va_P G.1 vwCl (wl G M h) H → va_S (Aw G) s.heap H locs → lv_has ls 4 [(0, .ref (xa G 132)), (1, .int x34), (2, .int x35)] → W p l e rm_X12_ridgeOf s m args below meth c H locs 0 0 Q (F0 m 4 ls [])) hf ?_) _ _ _ hP hS (lv_sub hl [2, 1, 0] rfl)
    rintro ⟨x34, x35⟩ hf H locs ls hP hS hl
    unfold f_X12_ridgeOf_b4 at hf
    refine lv_iload_n hx hb dX12_ridgeOf_4 rfl (lv_at hl 2 rfl) ?_
    refine lv_bipush (v := 24) hx hb dX12_ridgeOf_5 (by decide) ?_
    refine lv_icmp_ge (tgt := 57) hx hb dX12_ridgeOf_7 (by decide) (fun hc => ?_) (fun hc => ?_)
    · have hf := (OB_t hf hc)
      exact (it_e hf) _ _ _ hP hS (lv_sub hl [1] rfl)
    · have hf := (OB_f hf hc)
      refine lv_aload_n hx hb dX12_ridgeOf_10 rfl (lv_at hl 0 rfl) ?_
      refine lv_iload_n hx hb dX12_ridgeOf_11 rfl (lv_at hl 2 rfl) ?_
      refine x_ci0 (rest := []) (x_runV C hE hP hS ykX12_mirrorOf lkX12_342 sh132 rfl (c_X12_mirrorOf (OB_bind hf)) (by decide) rfl hl.1 (Nat.le_of_ble_eq_true rfl) dX12_ridgeOf_12) hS (fun r37 H locs hf hP hS => ?_)
      refine lv_aload_n hx hb dX12_ridgeOf_15 rfl (lv_at hl 0 rfl) ?_
      refine lv_iload_n hx hb dX12_ridgeOf_16 rfl (lv_at hl 1 rfl) ?_
      refine x_ci0 (rest := [.int r37]) (x_runV C hE hP hS ykX12_mirrorOf lkX12_342 sh132 rfl (c_X12_mirrorOf (OB_bind hf)) (by decide) rfl hl.1 (Nat.le_of_ble_eq_true rfl) dX12_ridgeOf_17) hS (fun r38 H locs hf hP hS => ?_)
      refine lv_isub hx hb dX12_ridgeOf_20 ?_
      refine lv_istore_n (lv' := [(3, .int (r37 - r38)), (0, .ref (xa G 132)), (1, .int x34), (2, .int x35)]) hx hb dX12_ridgeOf_21 rfl hl (by decide) rfl (fun ls hl => ?_)
      refine lv_iload_n hx hb dX12_ridgeOf_22 rfl (lv_at hl 0 rfl) ?_
      refine xj (fun (x43 : Int32) => ∀ (H : Heap) (locs : List Loc) (ls : Array Slot), va_P G.1 vwCl (wl G M h) H → va_S (Aw G) s.heap H locs → lv_has ls 4 [(0, .ref (xa G 132)), (2, .int x35)] → W p l e rm_X12_ridgeOf s m args below meth c H locs 0 0 Q (F0 m 50 ls [.int x43])) hf ?_ (fun hf => ?_)
      · rintro x43 hf H locs ls hP hS hl
        refine lv_istore_n (lv' := [(1, .int x43), (0, .ref (xa G 132)), (2, .int x35)]) hx hb dX12_ridgeOf_50 rfl hl (by decide) rfl (fun ls hl => ?_)
        refine lv_iinc (v := (x35 + 1)) (lv' := [(2, .int (x35 + 1)), (1, .int x43), (0, .ref (xa G 132))]) hx hb dX12_ridgeOf_51 hl (k := 2) rfl rfl (by decide) rfl (fun ls hl => ?_)
        refine lv_goto (tgt := 4) hx hb dX12_ridgeOf_54 (by decide) ?_
        exact (it_c hf) _ _ _ hP hS (lv_sub hl [2, 1, 0] rfl)
      · skip
        refine lv_if_gt (tgt := 45) hx hb dX12_ridgeOf_23 (by decide) (fun hc => ?_) (fun hc => ?_)
        · have hf := (OB_t hf hc)
          refine lv_iload_n hx hb dX12_ridgeOf_45 rfl (lv_at hl 3 rfl) ?_
          refine lv_goto (tgt := 50) hx hb dX12_ridgeOf_46 (by decide) ?_
          exact (OB_some hf) _ _ _ hP hS (lv_sub hl [1, 3] rfl)
        · have hf := (OB_f hf hc)
          refine lv_iload_n hx hb dX12_ridgeOf_26 rfl (lv_at hl 0 rfl) ?_
          refine lv_if_ne (tgt := 49) hx hb dX12_ridgeOf_27 (by decide) (fun hc => ?_) (fun hc => ?_)
          · have hf := (OB_f hf hc)
            refine lv_iload_n hx hb dX12_ridgeOf_49 rfl (lv_at hl 2 rfl) ?_
            exact (OB_some hf) _ _ _ hP hS (lv_sub hl [1, 3] rfl)
          · have hf := (OB_t hf hc)
            refine lv_iload_n hx hb dX12_ridgeOf_30 rfl (lv_at hl 3 rfl) ?_
            refine lv_bipush (v := 12) hx hb dX12_ridgeOf_31 (by decide) ?_
            refine x_ci0 (rest := []) (x_runS C hE hP hS ykX12_off lkX12_137 (c_X12_off (OB_bind hf)) (by decide) rfl hl.1 (Nat.le_of_ble_eq_true rfl) dX12_ridgeOf_33) hS (fun r44 H locs hf hP hS => ?_)
            refine lv_iload_n hx hb dX12_ridgeOf_36 rfl (lv_at hl 2 rfl) ?_
            refine lv_bipush (v := 12) hx hb dX12_ridgeOf_37 (by decide) ?_
            refine x_ci0 (rest := [.int r44]) (x_runS C hE hP hS ykX12_off lkX12_137 (c_X12_off (OB_bind hf)) (by decide) rfl hl.1 (Nat.le_of_ble_eq_true rfl) dX12_ridgeOf_39) hS (fun r45 H locs hf hP hS => ?_)
            refine lv_icmp_ge (tgt := 49) hx hb dX12_ridgeOf_42 (by decide) (fun hc => ?_) (fun hc => ?_)
            · have hf := (OB_t hf hc)
              refine lv_iload_n hx hb dX12_ridgeOf_49 rfl (lv_at hl 2 rfl) ?_
              exact (OB_some hf) _ _ _ hP hS (lv_sub hl [1, 3] rfl)
            · have hf := (OB_f hf hc)
              refine lv_iload_n hx hb dX12_ridgeOf_45 rfl (lv_at hl 3 rfl) ?_
              refine lv_goto (tgt := 50) hx hb dX12_ridgeOf_46 (by decide) ?_
              exact (OB_some hf) _ _ _ hP hS (lv_sub hl [1, 3] rfl)
def rm_X12_ridge : Room := { frames := 2, cells := 0, slots := 0, locals := 45 }
set_option maxRecDepth 100000 in
set_option maxHeartbeats 8000000 in
theorem c_X12_ridge {l : Launch} {G : GG}  {M : Mem} {h : Int64}  {P9 : Int32 → Prop} (hf : OB (f_X12_ridge M) P9) : Met1 l yX12_ridge cX12_ridge 1 (some .int) rm_X12_ridge G [.ref (xa G 132)] M h (QI0 G M h P9) := by
  unfold f_X12_ridge at hf
  refine xm_i0 (by decide) (Nat.le_of_ble_eq_true rfl) ?_
  intro p e s m args below meth c ls Q C hE hret hP hS hl
  have C : CallFix p m c cX12_ridge 1 s args TB RX12 := C
  have hx := C.1
  have hb := C.2.1
  have hl : lv_has ls 1 [(0, .ref (xa G 132))] := hl
  refine lv_aload_n hx hb dX12_ridge_0 rfl (lv_at hl 0 rfl) ?_
  refine x_ci0 (rest := []) (x_runV C hE hP hS ykX12_ridgeOf lkX12_345 sh132 rfl (c_X12_ridgeOf (OB_bind hf)) (by decide) rfl hl.1 (Nat.le_of_ble_eq_true rfl) dX12_ridge_1) hS (fun r1 H locs hf hP hS => ?_)
  exact hret _ _ _ _ _ (OB_some hf) hP hS dX12_ridge_4
def rm_X12_countOf : Room := { frames := 1, cells := 0, slots := 0, locals := 23 }
set_option maxRecDepth 100000 in
set_option maxHeartbeats 8000000 in
theorem c_X12_countOf {l : Launch} {G : GG} {a1 : Int32} {M : Mem} {h : Int64}  {P9 : Int32 → Prop} (hf : OB (f_X12_countOf a1 M) P9) : Met1 l yX12_countOf cX12_countOf 2 (some .int) rm_X12_countOf G [.ref (xa G 132), .int a1] M h (QI0 G M h P9) := by
  unfold f_X12_countOf at hf
  refine xm_i0 (by decide) (Nat.le_of_ble_eq_true rfl) ?_
  intro p e s m args below meth c ls Q C hE hret hP hS hl
  have C : CallFix p m c cX12_countOf 2 s args TB RX12 := C
  have hx := C.1
  have hb := C.2.1
  have hl : lv_has ls 2 [(0, .ref (xa G 132)), (1, .int a1)] := hl
  refine lv_iload_n hx hb dX12_countOf_0 rfl (lv_at hl 1 rfl) ?_
  by_cases hs1_0 : a1 = 0
  · have hf := OB_t hf hs1_0
    refine lv_tableIn (off := 43) (tgt := 44) hx hb dX12_countOf_1 (by rw [hs1_0]; decide) (by rw [hs1_0]; decide) (by rw [hs1_0]; rfl) (by decide) ?_
    refine lv_sipush (v := 128) hx hb dX12_countOf_44 (by decide) ?_
    refine lv_aload_n hx hb dX12_countOf_47 rfl (lv_at hl 0 rfl) ?_
    refine lv_iconst (v := -1) hx hb dX12_countOf_48 (by decide) ?_
    refine x_ci0 (rest := [.int 128]) (x_runV C hE hP hS ykX12_cellsOf lkX12_120 sh132 rfl (c_X12_cellsOf (OB_bind hf)) (by decide) rfl hl.1 (Nat.le_of_ble_eq_true rfl) dX12_countOf_49) hS (fun r1 H locs hf hP hS => ?_)
    refine lv_isub hx hb dX12_countOf_52 ?_
    exact hret _ _ _ _ _ (OB_some hf) hP hS dX12_countOf_53
  · have hf := OB_f hf hs1_0
    by_cases hs1_1 : a1 = 1
    · have hf := OB_t hf hs1_1
      refine lv_tableIn (off := 53) (tgt := 54) hx hb dX12_countOf_1 (by rw [hs1_1]; decide) (by rw [hs1_1]; decide) (by rw [hs1_1]; rfl) (by decide) ?_
      refine lv_aload_n hx hb dX12_countOf_54 rfl (lv_at hl 0 rfl) ?_
      refine gfX12_98 C hE hP dX12_countOf_55 ?_
      exact hret _ _ _ _ _ (OB_some hf) hP hS dX12_countOf_58
    · have hf := OB_f hf hs1_1
      by_cases hs1_2 : a1 = 2
      · have hf := OB_t hf hs1_2
        refine lv_tableIn (off := 58) (tgt := 59) hx hb dX12_countOf_1 (by rw [hs1_2]; decide) (by rw [hs1_2]; decide) (by rw [hs1_2]; rfl) (by decide) ?_
        refine lv_aload_n hx hb dX12_countOf_59 rfl (lv_at hl 0 rfl) ?_
        refine gfX12_28 C hE hP dX12_countOf_60 ?_
        refine lv_iconst (v := 0) hx hb dX12_countOf_63 (by decide) ?_
        refine x_iald C hE hP sh139 (by decide) dX12_countOf_64 ?_
        exact hret _ _ _ _ _ (OB_some hf) hP hS dX12_countOf_65
      · have hf := OB_f hf hs1_2
        by_cases hs1_3 : a1 = 3
        · have hf := OB_t hf hs1_3
          refine lv_tableIn (off := 65) (tgt := 66) hx hb dX12_countOf_1 (by rw [hs1_3]; decide) (by rw [hs1_3]; decide) (by rw [hs1_3]; rfl) (by decide) ?_
          refine lv_aload_n hx hb dX12_countOf_66 rfl (lv_at hl 0 rfl) ?_
          refine gfX12_28 C hE hP dX12_countOf_67 ?_
          refine lv_iconst (v := 1) hx hb dX12_countOf_70 (by decide) ?_
          refine x_iald C hE hP sh139 (by decide) dX12_countOf_71 ?_
          exact hret _ _ _ _ _ (OB_some hf) hP hS dX12_countOf_72
        · have hf := OB_f hf hs1_3
          by_cases hs1_4 : a1 = 4
          · have hf := OB_t hf hs1_4
            refine lv_tableIn (off := 72) (tgt := 73) hx hb dX12_countOf_1 (by rw [hs1_4]; decide) (by rw [hs1_4]; decide) (by rw [hs1_4]; rfl) (by decide) ?_
            refine lv_aload_n hx hb dX12_countOf_73 rfl (lv_at hl 0 rfl) ?_
            refine gfX12_265 C hE hP dX12_countOf_74 ?_
            exact hret _ _ _ _ _ (OB_some hf) hP hS dX12_countOf_77
          · have hf := OB_f hf hs1_4
            by_cases hs1_5 : a1 = 5
            · have hf := OB_t hf hs1_5
              refine lv_tableIn (off := 77) (tgt := 78) hx hb dX12_countOf_1 (by rw [hs1_5]; decide) (by rw [hs1_5]; decide) (by rw [hs1_5]; rfl) (by decide) ?_
              refine lv_aload_n hx hb dX12_countOf_78 rfl (lv_at hl 0 rfl) ?_
              refine gfX12_307 C hE hP dX12_countOf_79 ?_
              exact hret _ _ _ _ _ (OB_some hf) hP hS dX12_countOf_82
            · have hf := OB_f hf hs1_5
              by_cases hs1_6 : a1 = 6
              · have hf := OB_t hf hs1_6
                refine lv_tableIn (off := 82) (tgt := 83) hx hb dX12_countOf_1 (by rw [hs1_6]; decide) (by rw [hs1_6]; decide) (by rw [hs1_6]; rfl) (by decide) ?_
                refine lv_aload_n hx hb dX12_countOf_83 rfl (lv_at hl 0 rfl) ?_
                refine gfX12_195 C hE hP dX12_countOf_84 ?_
                exact hret _ _ _ _ _ (OB_some hf) hP hS dX12_countOf_87
              · have hf := OB_f hf hs1_6
                refine lv_tableOut (tgt := 88) hx hb dX12_countOf_1 (by have n0 := lv_neT hs1_0 (by decide : (0 : Int32).toInt = 0); have n1 := lv_neT hs1_1 (by decide : (1 : Int32).toInt = 1); have n2 := lv_neT hs1_2 (by decide : (2 : Int32).toInt = 2); have n3 := lv_neT hs1_3 (by decide : (3 : Int32).toInt = 3); have n4 := lv_neT hs1_4 (by decide : (4 : Int32).toInt = 4); have n5 := lv_neT hs1_5 (by decide : (5 : Int32).toInt = 5); have n6 := lv_neT hs1_6 (by decide : (6 : Int32).toInt = 6); omega) (by decide) ?_
                refine lv_bipush (v := -102) hx hb dX12_countOf_88 (by decide) ?_
                exact hret _ _ _ _ _ (OB_some hf) hP hS dX12_countOf_90
def rm_X12_count : Room := { frames := 2, cells := 0, slots := 0, locals := 44 }
set_option maxRecDepth 100000 in
set_option maxHeartbeats 8000000 in
theorem c_X12_count {l : Launch} {G : GG} {a1 : Int32} {M : Mem} {h : Int64}  {P9 : Int32 → Prop} (hf : OB (f_X12_count a1 M) P9) : Met1 l yX12_count cX12_count 2 (some .int) rm_X12_count G [.ref (xa G 132), .int a1] M h (QI0 G M h P9) := by
  unfold f_X12_count at hf
  refine xm_i0 (by decide) (Nat.le_of_ble_eq_true rfl) ?_
  intro p e s m args below meth c ls Q C hE hret hP hS hl
  have C : CallFix p m c cX12_count 2 s args TB RX12 := C
  have hx := C.1
  have hb := C.2.1
  have hl : lv_has ls 2 [(0, .ref (xa G 132)), (1, .int a1)] := hl
  refine lv_aload_n hx hb dX12_count_0 rfl (lv_at hl 0 rfl) ?_
  refine lv_iload_n hx hb dX12_count_1 rfl (lv_at hl 1 rfl) ?_
  refine x_ci0 (rest := []) (x_runV C hE hP hS ykX12_countOf lkX12_348 sh132 rfl (c_X12_countOf (OB_bind hf)) (by decide) rfl hl.1 (Nat.le_of_ble_eq_true rfl) dX12_count_2) hS (fun r1 H locs hf hP hS => ?_)
  exact hret _ _ _ _ _ (OB_some hf) hP hS dX12_count_5
def rm_X12_tell : Room := { frames := 0, cells := 0, slots := 0, locals := 0 }
set_option maxRecDepth 100000 in
set_option maxHeartbeats 8000000 in
theorem c_X12_tell {l : Launch} {G : GG} {a1 : Int64} {M : Mem} {h : Int64}  {P9 : Int64 → Prop} (hf : OB (f_X12_tell a1 h) P9) : Met1 l yX12_tell cX12_tell 3 none rm_X12_tell G [.ref (xa G 132), .long a1] M h (QVk G M P9) := by
  unfold f_X12_tell at hf
  refine xm_vk (by decide) (Nat.le_of_ble_eq_true rfl) ?_
  intro p e s m args below meth c ls Q C hE hret hP hS hl
  have C : CallFix p m c cX12_tell 3 s args TB RX12 := C
  have hx := C.1
  have hb := C.2.1
  have hl : lv_has ls 3 [(0, .ref (xa G 132)), (1, .long a1)] := hl
  refine lv_aload_n hx hb dX12_tell_0 rfl (lv_at hl 0 rfl) ?_
  refine lv_ldc2 hx hb C.2.2.2.1 (C.2.2.2.2 _ ckX12_351) dX12_tell_1 ?_
  refine lv_aload_n hx hb dX12_tell_4 rfl (lv_at hl 0 rfl) ?_
  refine gfX12_353 C hE hP dX12_tell_5 ?_
  refine lv_lmul hx hb dX12_tell_8 ?_
  refine lv_lload_n hx hb dX12_tell_9 rfl (lv_at hl 1 rfl) ?_
  refine lv_ladd hx hb dX12_tell_10 ?_
  refine pfX12_353 C hE hP hS dX12_tell_11 (fun H locs hP hS => ?_)
  exact hret _ _ _ _ _ (OB_some hf) hP hS dX12_tell_14
def rm_X12_digest : Room := { frames := 7, cells := 0, slots := 0, locals := 170 }
set_option maxRecDepth 100000 in
set_option maxHeartbeats 8000000 in
theorem c_X12_digest {l : Launch} {G : GG}  {M : Mem} {h : Int64}  {P9 : (Int64 × Mem × Int64) → Prop} (hf : OB (f_X12_digest M h) P9) : Met1 l yX12_digest cX12_digest 3 (some .long) rm_X12_digest G [.ref (xa G 132)] M h (QLh G P9) := by
  unfold f_X12_digest at hf
  refine xm_lh (by decide) (Nat.le_of_ble_eq_true rfl) ?_
  intro p e s m args below meth c ls Q C hE hret hP hS hl
  have C : CallFix p m c cX12_digest 3 s args TB RX12 := C
  have hx := C.1
  have hb := C.2.1
  have hl : lv_has ls 3 [(0, .ref (xa G 132))] := hl
  refine lv_aload_n hx hb dX12_digest_0 rfl (lv_at hl 0 rfl) ?_
  refine lv_ldc2 hx hb C.2.2.2.1 (C.2.2.2.2 _ ckX12_357) dX12_digest_1 ?_
  refine pfX12_353 C hE hP hS dX12_digest_4 (fun H locs hP hS => ?_)
  refine lv_iconst (v := 0) hx hb dX12_digest_7 (by decide) ?_
  refine lv_istore_n (lv' := [(1, .int 0), (0, .ref (xa G 132))]) hx hb dX12_digest_8 rfl hl (by decide) rfl (fun ls hl => ?_)
  refine xj (fun (hh11 : Int64) => ∀ (H : Heap) (locs : List Loc) (ls : Array Slot), va_P G.1 vwCl (wl G M hh11) H → va_S (Aw G) s.heap H locs → lv_has ls 3 [(0, .ref (xa G 132))] → W p l e rm_X12_digest s m args below meth c H locs 0 0 Q (F0 m 33 ls [])) hf ?_ (fun hf => ?_)
  · rintro hh11 hf H locs ls hP hS hl
    refine lv_iconst (v := 0) hx hb dX12_digest_33 (by decide) ?_
    refine lv_istore_n (lv' := [(1, .int 0), (0, .ref (xa G 132))]) hx hb dX12_digest_34 rfl hl (by decide) rfl (fun ls hl => ?_)
    refine xj (fun (hh32 : Int64) => ∀ (H : Heap) (locs : List Loc) (ls : Array Slot), va_P G.1 vwCl (wl G M hh32) H → va_S (Aw G) s.heap H locs → lv_has ls 3 [(0, .ref (xa G 132))] → W p l e rm_X12_digest s m args below meth c H locs 0 0 Q (F0 m 92 ls [])) hf ?_ (fun hf => ?_)
    · rintro hh32 hf H locs ls hP hS hl
      refine lv_iconst (v := 0) hx hb dX12_digest_92 (by decide) ?_
      refine lv_istore_n (lv' := [(1, .int 0), (0, .ref (xa G 132))]) hx hb dX12_digest_93 rfl hl (by decide) rfl (fun ls hl => ?_)
      refine xj (fun (hh79 : Int64) => ∀ (H : Heap) (locs : List Loc) (ls : Array Slot), va_P G.1 vwCl (wl G M hh79) H → va_S (Aw G) s.heap H locs → lv_has ls 3 [(0, .ref (xa G 132))] → W p l e rm_X12_digest s m args below meth c H locs 0 0 Q (F0 m 133 ls [])) hf ?_ (fun hf => ?_)
      · rintro hh79 hf H locs ls hP hS hl
        refine lv_iconst (v := 0) hx hb dX12_digest_133 (by decide) ?_
        refine lv_istore_n (lv' := [(1, .int 0), (0, .ref (xa G 132))]) hx hb dX12_digest_134 rfl hl (by decide) rfl (fun ls hl => ?_)
        refine xj (fun (zz : (Mem × Int64)) => match zz with | (M124, hh125) => ∀ (H : Heap) (locs : List Loc) (ls : Array Slot), va_P G.1 vwCl (wl G M124 hh125) H → va_S (Aw G) s.heap H locs → lv_has ls 3 [(0, .ref (xa G 132))] → W p l e rm_X12_digest s m args below meth c H locs 0 0 Q (F0 m 193 ls [])) hf ?_ (fun hf => ?_)
        · rintro ⟨M124, hh125⟩ hf H locs ls hP hS hl
          refine lv_aload_n hx hb dX12_digest_193 rfl (lv_at hl 0 rfl) ?_
          refine lv_aload_n hx hb dX12_digest_194 rfl (lv_at hl 0 rfl) ?_
          refine gfX12_86 C hE hP dX12_digest_195 ?_
          refine lv_i2l hx hb dX12_digest_198 rfl ?_
          refine x_cvk (rest := []) (x_runV C hE hP hS ykX12_tell lkX12_359 sh132 rfl (c_X12_tell (OB_bind hf)) (by decide) rfl hl.1 (Nat.le_of_ble_eq_true rfl) dX12_digest_199) hS (fun hh135 H locs hf hP hS => ?_)
          refine lv_iconst (v := 0) hx hb dX12_digest_202 (by decide) ?_
          refine lv_istore_n (lv' := [(1, .int 0), (0, .ref (xa G 132))]) hx hb dX12_digest_203 rfl hl (by decide) rfl (fun ls hl => ?_)
          refine xj (fun (hh156 : Int64) => ∀ (H : Heap) (locs : List Loc) (ls : Array Slot), va_P G.1 vwCl (wl G M124 hh156) H → va_S (Aw G) s.heap H locs → lv_has ls 3 [(0, .ref (xa G 132))] → W p l e rm_X12_digest s m args below meth c H locs 0 0 Q (F0 m 280 ls [])) hf ?_ (fun hf => ?_)
          · rintro hh156 hf H locs ls hP hS hl
            refine lv_aload_n hx hb dX12_digest_280 rfl (lv_at hl 0 rfl) ?_
            refine lv_aload_n hx hb dX12_digest_281 rfl (lv_at hl 0 rfl) ?_
            refine gfX12_337 C hE hP dX12_digest_282 ?_
            refine lv_i2l hx hb dX12_digest_285 rfl ?_
            refine x_cvk (rest := []) (x_runV C hE hP hS ykX12_tell lkX12_359 sh132 rfl (c_X12_tell (OB_bind hf)) (by decide) rfl hl.1 (Nat.le_of_ble_eq_true rfl) dX12_digest_286) hS (fun hh164 H locs hf hP hS => ?_)
            refine lv_aload_n hx hb dX12_digest_289 rfl (lv_at hl 0 rfl) ?_
            refine lv_aload_n hx hb dX12_digest_290 rfl (lv_at hl 0 rfl) ?_
            refine x_ci0 (rest := [.ref (xa G 132)]) (x_runV C hE hP hS ykX12_ridgeOf lkX12_345 sh132 rfl (c_X12_ridgeOf (OB_bind hf)) (by decide) rfl hl.1 (Nat.le_of_ble_eq_true rfl) dX12_digest_291) hS (fun r165 H locs hf hP hS => ?_)
            refine lv_i2l hx hb dX12_digest_294 rfl ?_
            refine x_cvk (rest := []) (x_runV C hE hP hS ykX12_tell lkX12_359 sh132 rfl (c_X12_tell (OB_bind hf)) (by decide) rfl hl.1 (Nat.le_of_ble_eq_true rfl) dX12_digest_295) hS (fun hh166 H locs hf hP hS => ?_)
            refine lv_iconst (v := 0) hx hb dX12_digest_298 (by decide) ?_
            refine lv_istore_n (lv' := [(1, .int 0), (0, .ref (xa G 132))]) hx hb dX12_digest_299 rfl hl (by decide) rfl (fun ls hl => ?_)
            refine xj (fun (hh177 : Int64) => ∀ (H : Heap) (locs : List Loc) (ls : Array Slot), va_P G.1 vwCl (wl G M124 hh177) H → va_S (Aw G) s.heap H locs → lv_has ls 3 [(0, .ref (xa G 132))] → W p l e rm_X12_digest s m args below meth c H locs 0 0 Q (F0 m 325 ls [])) hf ?_ (fun hf => ?_)
            · rintro hh177 hf H locs ls hP hS hl
              refine lv_iconst (v := 0) hx hb dX12_digest_325 (by decide) ?_
              refine lv_istore_n (lv' := [(1, .int 0), (0, .ref (xa G 132))]) hx hb dX12_digest_326 rfl hl (by decide) rfl (fun ls hl => ?_)
              refine xj (fun (hh190 : Int64) => ∀ (H : Heap) (locs : List Loc) (ls : Array Slot), va_P G.1 vwCl (wl G M124 hh190) H → va_S (Aw G) s.heap H locs → lv_has ls 3 [(0, .ref (xa G 132))] → W p l e rm_X12_digest s m args below meth c H locs 0 0 Q (F0 m 349 ls [])) hf ?_ (fun hf => ?_)
              · rintro hh190 hf H locs ls hP hS hl
                refine lv_aload_n hx hb dX12_digest_349 rfl (lv_at hl 0 rfl) ?_
                refine gfX12_353 C hE hP dX12_digest_350 ?_
                exact hret _ _ _ _ _ _ _ (OB_some hf) hP hS dX12_digest_353
              · refine (it_W (fun (zz : (Int32 × Int64)) => match zz with | (x188, hh189) => ∀ (H : Heap) (locs : List Loc) (ls : Array Slot), va_P G.1 vwCl (wl G M124 hh189) H → va_S (Aw G) s.heap H locs → lv_has ls 3 [(0, .ref (xa G 132)), (1, .int x188)] → W p l e rm_X12_digest s m args below meth c H locs 0 0 Q (F0 m 327 ls [])) hf ?_) _ _ _ hP hS (lv_sub hl [1, 0] rfl)
                rintro ⟨x188, hh189⟩ hf H locs ls hP hS hl
                unfold f_X12_digest_b327 at hf
                refine lv_iload_n hx hb dX12_digest_327 rfl (lv_at hl 1 rfl) ?_
                refine lv_bipush (v := 7) hx hb dX12_digest_328 (by decide) ?_
                refine lv_icmp_ge (tgt := 349) hx hb dX12_digest_330 (by decide) (fun hc => ?_) (fun hc => ?_)
                · have hf := (OB_t hf hc)
                  exact (it_e hf) _ _ _ hP hS (lv_sub hl [0] rfl)
                · have hf := (OB_f hf hc)
                  refine lv_aload_n hx hb dX12_digest_333 rfl (lv_at hl 0 rfl) ?_
                  refine lv_aload_n hx hb dX12_digest_334 rfl (lv_at hl 0 rfl) ?_
                  refine lv_iload_n hx hb dX12_digest_335 rfl (lv_at hl 1 rfl) ?_
                  refine x_ci0 (rest := [.ref (xa G 132)]) (x_runV C hE hP hS ykX12_countOf lkX12_348 sh132 rfl (c_X12_countOf (OB_bind hf)) (by decide) rfl hl.1 (Nat.le_of_ble_eq_true rfl) dX12_digest_336) hS (fun r191 H locs hf hP hS => ?_)
                  refine lv_i2l hx hb dX12_digest_339 rfl ?_
                  refine x_cvk (rest := []) (x_runV C hE hP hS ykX12_tell lkX12_359 sh132 rfl (c_X12_tell (OB_bind hf)) (by decide) rfl hl.1 (Nat.le_of_ble_eq_true rfl) dX12_digest_340) hS (fun hh192 H locs hf hP hS => ?_)
                  refine lv_iinc (v := (x188 + 1)) (lv' := [(1, .int (x188 + 1)), (0, .ref (xa G 132))]) hx hb dX12_digest_343 hl (k := 1) rfl rfl (by decide) rfl (fun ls hl => ?_)
                  refine lv_goto (tgt := 327) hx hb dX12_digest_346 (by decide) ?_
                  exact (it_c hf) _ _ _ hP hS (lv_sub hl [1, 0] rfl)
            · refine (it_W (fun (zz : (Int32 × Int64)) => match zz with | (x175, hh176) => ∀ (H : Heap) (locs : List Loc) (ls : Array Slot), va_P G.1 vwCl (wl G M124 hh176) H → va_S (Aw G) s.heap H locs → lv_has ls 3 [(0, .ref (xa G 132)), (1, .int x175)] → W p l e rm_X12_digest s m args below meth c H locs 0 0 Q (F0 m 300 ls [])) hf ?_) _ _ _ hP hS (lv_sub hl [1, 0] rfl)
              rintro ⟨x175, hh176⟩ hf H locs ls hP hS hl
              unfold f_X12_digest_b300 at hf
              refine lv_iload_n hx hb dX12_digest_300 rfl (lv_at hl 1 rfl) ?_
              refine lv_aload_n hx hb dX12_digest_301 rfl (lv_at hl 0 rfl) ?_
              refine gfX12_195 C hE hP dX12_digest_302 ?_
              refine lv_icmp_ge (tgt := 325) hx hb dX12_digest_305 (by decide) (fun hc => ?_) (fun hc => ?_)
              · have hf := (OB_t hf hc)
                exact (it_e hf) _ _ _ hP hS (lv_sub hl [0] rfl)
              · have hf := (OB_f hf hc)
                refine lv_aload_n hx hb dX12_digest_308 rfl (lv_at hl 0 rfl) ?_
                refine lv_aload_n hx hb dX12_digest_309 rfl (lv_at hl 0 rfl) ?_
                refine gfX12_25 C hE hP dX12_digest_310 ?_
                refine lv_iload_n hx hb dX12_digest_313 rfl (lv_at hl 1 rfl) ?_
                obtain ⟨g178, hf⟩ := OB_g hf
                refine x_iald C hE hP sh138 g178 dX12_digest_314 ?_
                refine lv_i2l hx hb dX12_digest_315 rfl ?_
                refine x_cvk (rest := []) (x_runV C hE hP hS ykX12_tell lkX12_359 sh132 rfl (c_X12_tell (OB_bind hf)) (by decide) rfl hl.1 (Nat.le_of_ble_eq_true rfl) dX12_digest_316) hS (fun hh179 H locs hf hP hS => ?_)
                refine lv_iinc (v := (x175 + 1)) (lv' := [(1, .int (x175 + 1)), (0, .ref (xa G 132))]) hx hb dX12_digest_319 hl (k := 1) rfl rfl (by decide) rfl (fun ls hl => ?_)
                refine lv_goto (tgt := 300) hx hb dX12_digest_322 (by decide) ?_
                exact (it_c hf) _ _ _ hP hS (lv_sub hl [1, 0] rfl)
          · refine (it_W (fun (zz : (Int32 × Int64)) => match zz with | (x154, hh155) => ∀ (H : Heap) (locs : List Loc) (ls : Array Slot), va_P G.1 vwCl (wl G M124 hh155) H → va_S (Aw G) s.heap H locs → lv_has ls 3 [(0, .ref (xa G 132)), (1, .int x154)] → W p l e rm_X12_digest s m args below meth c H locs 0 0 Q (F0 m 204 ls [])) hf ?_) _ _ _ hP hS (lv_sub hl [1, 0] rfl)
            rintro ⟨x154, hh155⟩ hf H locs ls hP hS hl
            unfold f_X12_digest_b204 at hf
            refine lv_iload_n hx hb dX12_digest_204 rfl (lv_at hl 1 rfl) ?_
            refine lv_aload_n hx hb dX12_digest_205 rfl (lv_at hl 0 rfl) ?_
            refine gfX12_307 C hE hP dX12_digest_206 ?_
            refine lv_icmp_ge (tgt := 280) hx hb dX12_digest_209 (by decide) (fun hc => ?_) (fun hc => ?_)
            · have hf := (OB_t hf hc)
              exact (it_e hf) _ _ _ hP hS (lv_sub hl [0] rfl)
            · have hf := (OB_f hf hc)
              refine lv_aload_n hx hb dX12_digest_212 rfl (lv_at hl 0 rfl) ?_
              refine lv_aload_n hx hb dX12_digest_213 rfl (lv_at hl 0 rfl) ?_
              refine gfX12_68 C hE hP dX12_digest_214 ?_
              refine lv_iload_n hx hb dX12_digest_217 rfl (lv_at hl 1 rfl) ?_
              obtain ⟨g157, hf⟩ := OB_g hf
              refine x_iald C hE hP sh152 g157 dX12_digest_218 ?_
              refine lv_i2l hx hb dX12_digest_219 rfl ?_
              refine x_cvk (rest := []) (x_runV C hE hP hS ykX12_tell lkX12_359 sh132 rfl (c_X12_tell (OB_bind hf)) (by decide) rfl hl.1 (Nat.le_of_ble_eq_true rfl) dX12_digest_220) hS (fun hh158 H locs hf hP hS => ?_)
              refine lv_aload_n hx hb dX12_digest_223 rfl (lv_at hl 0 rfl) ?_
              refine lv_aload_n hx hb dX12_digest_224 rfl (lv_at hl 0 rfl) ?_
              refine gfX12_71 C hE hP dX12_digest_225 ?_
              refine lv_iload_n hx hb dX12_digest_228 rfl (lv_at hl 1 rfl) ?_
              refine x_iald C hE hP sh153 g157 dX12_digest_229 ?_
              refine lv_i2l hx hb dX12_digest_230 rfl ?_
              refine x_cvk (rest := []) (x_runV C hE hP hS ykX12_tell lkX12_359 sh132 rfl (c_X12_tell (OB_bind hf)) (by decide) rfl hl.1 (Nat.le_of_ble_eq_true rfl) dX12_digest_231) hS (fun hh159 H locs hf hP hS => ?_)
              refine lv_aload_n hx hb dX12_digest_234 rfl (lv_at hl 0 rfl) ?_
              refine lv_aload_n hx hb dX12_digest_235 rfl (lv_at hl 0 rfl) ?_
              refine gfX12_74 C hE hP dX12_digest_236 ?_
              refine lv_iload_n hx hb dX12_digest_239 rfl (lv_at hl 1 rfl) ?_
              refine x_iald C hE hP sh154 g157 dX12_digest_240 ?_
              refine lv_i2l hx hb dX12_digest_241 rfl ?_
              refine x_cvk (rest := []) (x_runV C hE hP hS ykX12_tell lkX12_359 sh132 rfl (c_X12_tell (OB_bind hf)) (by decide) rfl hl.1 (Nat.le_of_ble_eq_true rfl) dX12_digest_242) hS (fun hh160 H locs hf hP hS => ?_)
              refine lv_aload_n hx hb dX12_digest_245 rfl (lv_at hl 0 rfl) ?_
              refine lv_aload_n hx hb dX12_digest_246 rfl (lv_at hl 0 rfl) ?_
              refine gfX12_77 C hE hP dX12_digest_247 ?_
              refine lv_iload_n hx hb dX12_digest_250 rfl (lv_at hl 1 rfl) ?_
              refine x_zald C hE hP sh155 g157 dX12_digest_251 ?_
              refine xj (fun (x161 : Int64) => ∀ (H : Heap) (locs : List Loc) (ls : Array Slot), va_P G.1 vwCl (wl G M124 hh160) H → va_S (Aw G) s.heap H locs → lv_has ls 3 [(0, .ref (xa G 132)), (1, .int x154)] → W p l e rm_X12_digest s m args below meth c H locs 0 0 Q (F0 m 260 ls [.long x161, .ref (xa G 132)])) hf ?_ (fun hf => ?_)
              · rintro x161 hf H locs ls hP hS hl
                refine x_cvk (rest := []) (x_runV C hE hP hS ykX12_tell lkX12_359 sh132 rfl (c_X12_tell (OB_bind hf)) (by decide) rfl hl.1 (Nat.le_of_ble_eq_true rfl) dX12_digest_260) hS (fun hh162 H locs hf hP hS => ?_)
                refine lv_aload_n hx hb dX12_digest_263 rfl (lv_at hl 0 rfl) ?_
                refine lv_aload_n hx hb dX12_digest_264 rfl (lv_at hl 0 rfl) ?_
                refine gfX12_80 C hE hP dX12_digest_265 ?_
                refine lv_iload_n hx hb dX12_digest_268 rfl (lv_at hl 1 rfl) ?_
                refine x_iald C hE hP sh156 g157 dX12_digest_269 ?_
                refine lv_i2l hx hb dX12_digest_270 rfl ?_
                refine x_cvk (rest := []) (x_runV C hE hP hS ykX12_tell lkX12_359 sh132 rfl (c_X12_tell (OB_bind hf)) (by decide) rfl hl.1 (Nat.le_of_ble_eq_true rfl) dX12_digest_271) hS (fun hh163 H locs hf hP hS => ?_)
                refine lv_iinc (v := (x154 + 1)) (lv' := [(1, .int (x154 + 1)), (0, .ref (xa G 132))]) hx hb dX12_digest_274 hl (k := 1) rfl rfl (by decide) rfl (fun ls hl => ?_)
                refine lv_goto (tgt := 204) hx hb dX12_digest_277 (by decide) ?_
                exact (it_c hf) _ _ _ hP hS (lv_sub hl [1, 0] rfl)
              · skip
                refine lv_if_eq (tgt := 259) hx hb dX12_digest_252 (by decide) (fun hc => ?_) (fun hc => ?_)
                · have hf := (OB_t hf hc)
                  refine lv_lconst (v := 0) hx hb dX12_digest_259 (by decide) ?_
                  exact (OB_some hf) _ _ _ hP hS (lv_sub hl [0, 1] rfl)
                · have hf := (OB_f hf hc)
                  refine lv_lconst (v := 1) hx hb dX12_digest_255 (by decide) ?_
                  refine lv_goto (tgt := 260) hx hb dX12_digest_256 (by decide) ?_
                  exact (OB_some hf) _ _ _ hP hS (lv_sub hl [0, 1] rfl)
        · refine (it_W (fun (zz : (Int32 × Mem × Int64)) => match zz with | (x121, M122, hh123) => ∀ (H : Heap) (locs : List Loc) (ls : Array Slot), va_P G.1 vwCl (wl G M122 hh123) H → va_S (Aw G) s.heap H locs → lv_has ls 3 [(0, .ref (xa G 132)), (1, .int x121)] → W p l e rm_X12_digest s m args below meth c H locs 0 0 Q (F0 m 135 ls [])) hf ?_) _ _ _ hP hS (lv_sub hl [1, 0] rfl)
          rintro ⟨x121, M122, hh123⟩ hf H locs ls hP hS hl
          unfold f_X12_digest_b135 at hf
          refine lv_iload_n hx hb dX12_digest_135 rfl (lv_at hl 1 rfl) ?_
          refine lv_aload_n hx hb dX12_digest_136 rfl (lv_at hl 0 rfl) ?_
          refine gfX12_265 C hE hP dX12_digest_137 ?_
          refine lv_icmp_ge (tgt := 193) hx hb dX12_digest_140 (by decide) (fun hc => ?_) (fun hc => ?_)
          · have hf := (OB_t hf hc)
            exact (it_e hf) _ _ _ hP hS (lv_sub hl [0] rfl)
          · have hf := (OB_f hf hc)
            refine lv_aload_n hx hb dX12_digest_143 rfl (lv_at hl 0 rfl) ?_
            refine lv_aload_n hx hb dX12_digest_144 rfl (lv_at hl 0 rfl) ?_
            refine gfX12_59 C hE hP dX12_digest_145 ?_
            refine lv_iload_n hx hb dX12_digest_148 rfl (lv_at hl 1 rfl) ?_
            obtain ⟨g126, hf⟩ := OB_g hf
            refine x_iald C hE hP sh149 g126 dX12_digest_149 ?_
            refine lv_i2l hx hb dX12_digest_150 rfl ?_
            refine x_cvk (rest := []) (x_runV C hE hP hS ykX12_tell lkX12_359 sh132 rfl (c_X12_tell (OB_bind hf)) (by decide) rfl hl.1 (Nat.le_of_ble_eq_true rfl) dX12_digest_151) hS (fun hh127 H locs hf hP hS => ?_)
            refine lv_aload_n hx hb dX12_digest_154 rfl (lv_at hl 0 rfl) ?_
            refine lv_aload_n hx hb dX12_digest_155 rfl (lv_at hl 0 rfl) ?_
            refine gfX12_62 C hE hP dX12_digest_156 ?_
            refine lv_iload_n hx hb dX12_digest_159 rfl (lv_at hl 1 rfl) ?_
            refine x_iald C hE hP sh150 g126 dX12_digest_160 ?_
            refine lv_i2l hx hb dX12_digest_161 rfl ?_
            refine x_cvk (rest := []) (x_runV C hE hP hS ykX12_tell lkX12_359 sh132 rfl (c_X12_tell (OB_bind hf)) (by decide) rfl hl.1 (Nat.le_of_ble_eq_true rfl) dX12_digest_162) hS (fun hh128 H locs hf hP hS => ?_)
            refine lv_aload_n hx hb dX12_digest_165 rfl (lv_at hl 0 rfl) ?_
            refine lv_aload_n hx hb dX12_digest_166 rfl (lv_at hl 0 rfl) ?_
            refine lv_iconst (v := 0) hx hb dX12_digest_167 (by decide) ?_
            refine lv_iload_n hx hb dX12_digest_168 rfl (lv_at hl 1 rfl) ?_
            refine x_ci1 (rest := [.ref (xa G 132)]) (x_runV C hE hP hS ykX12_spreadOf lkX12_302 sh132 rfl (c_X12_spreadOf (OB_bind hf)) (by decide) rfl hl.1 (Nat.le_of_ble_eq_true rfl) dX12_digest_169) hS (fun r129 M130 H locs hf hP hS => ?_)
            refine lv_i2l hx hb dX12_digest_172 rfl ?_
            refine x_cvk (rest := []) (x_runV C hE hP hS ykX12_tell lkX12_359 sh132 rfl (c_X12_tell (OB_bind hf)) (by decide) rfl hl.1 (Nat.le_of_ble_eq_true rfl) dX12_digest_173) hS (fun hh131 H locs hf hP hS => ?_)
            refine lv_aload_n hx hb dX12_digest_176 rfl (lv_at hl 0 rfl) ?_
            refine lv_aload_n hx hb dX12_digest_177 rfl (lv_at hl 0 rfl) ?_
            refine lv_iconst (v := 1) hx hb dX12_digest_178 (by decide) ?_
            refine lv_iload_n hx hb dX12_digest_179 rfl (lv_at hl 1 rfl) ?_
            refine x_ci1 (rest := [.ref (xa G 132)]) (x_runV C hE hP hS ykX12_spreadOf lkX12_302 sh132 rfl (c_X12_spreadOf (OB_bind hf)) (by decide) rfl hl.1 (Nat.le_of_ble_eq_true rfl) dX12_digest_180) hS (fun r132 M133 H locs hf hP hS => ?_)
            refine lv_i2l hx hb dX12_digest_183 rfl ?_
            refine x_cvk (rest := []) (x_runV C hE hP hS ykX12_tell lkX12_359 sh132 rfl (c_X12_tell (OB_bind hf)) (by decide) rfl hl.1 (Nat.le_of_ble_eq_true rfl) dX12_digest_184) hS (fun hh134 H locs hf hP hS => ?_)
            refine lv_iinc (v := (x121 + 1)) (lv' := [(1, .int (x121 + 1)), (0, .ref (xa G 132))]) hx hb dX12_digest_187 hl (k := 1) rfl rfl (by decide) rfl (fun ls hl => ?_)
            refine lv_goto (tgt := 135) hx hb dX12_digest_190 (by decide) ?_
            exact (it_c hf) _ _ _ hP hS (lv_sub hl [1, 0] rfl)
      · refine (it_W (fun (zz : (Int32 × Int64)) => match zz with | (x77, hh78) => ∀ (H : Heap) (locs : List Loc) (ls : Array Slot), va_P G.1 vwCl (wl G M hh78) H → va_S (Aw G) s.heap H locs → lv_has ls 3 [(0, .ref (xa G 132)), (1, .int x77)] → W p l e rm_X12_digest s m args below meth c H locs 0 0 Q (F0 m 94 ls [])) hf ?_) _ _ _ hP hS (lv_sub hl [1, 0] rfl)
        rintro ⟨x77, hh78⟩ hf H locs ls hP hS hl
        unfold f_X12_digest_b94 at hf
        refine lv_iload_n hx hb dX12_digest_94 rfl (lv_at hl 1 rfl) ?_
        refine lv_bipush (v := 6) hx hb dX12_digest_95 (by decide) ?_
        refine lv_icmp_ge (tgt := 133) hx hb dX12_digest_97 (by decide) (fun hc => ?_) (fun hc => ?_)
        · have hf := (OB_t hf hc)
          exact (it_e hf) _ _ _ hP hS (lv_sub hl [0] rfl)
        · have hf := (OB_f hf hc)
          refine lv_iload_n hx hb dX12_digest_100 rfl (lv_at hl 1 rfl) ?_
          refine lv_iconst (v := 1) hx hb dX12_digest_101 (by decide) ?_
          refine lv_iadd hx hb dX12_digest_102 ?_
          refine lv_istore_n (lv' := [(2, .int (x77 + 1)), (0, .ref (xa G 132)), (1, .int x77)]) hx hb dX12_digest_103 rfl hl (by decide) rfl (fun ls hl => ?_)
          refine xj (fun (zz : (Int32 × Int64)) => match zz with | (x93, hh94) => ∀ (H : Heap) (locs : List Loc) (ls : Array Slot), va_P G.1 vwCl (wl G M hh94) H → va_S (Aw G) s.heap H locs → lv_has ls 3 [(0, .ref (xa G 132)), (1, .int x93)] → W p l e rm_X12_digest s m args below meth c H locs 0 0 Q (F0 m 127 ls [])) hf ?_ (fun hf => ?_)
          · rintro ⟨x93, hh94⟩ hf H locs ls hP hS hl
            refine lv_iinc (v := (x93 + 1)) (lv' := [(1, .int (x93 + 1)), (0, .ref (xa G 132))]) hx hb dX12_digest_127 hl (k := 1) rfl rfl (by decide) rfl (fun ls hl => ?_)
            refine lv_goto (tgt := 94) hx hb dX12_digest_130 (by decide) ?_
            exact (it_c hf) _ _ _ hP hS (lv_sub hl [1, 0] rfl)
          · refine (it_W (fun (zz : (Int32 × Int32 × Int64)) => match zz with | (x90, x91, hh92) => ∀ (H : Heap) (locs : List Loc) (ls : Array Slot), va_P G.1 vwCl (wl G M hh92) H → va_S (Aw G) s.heap H locs → lv_has ls 3 [(0, .ref (xa G 132)), (1, .int x90), (2, .int x91)] → W p l e rm_X12_digest s m args below meth c H locs 0 0 Q (F0 m 104 ls [])) hf ?_) _ _ _ hP hS (lv_sub hl [1, 2, 0] rfl)
            rintro ⟨x90, x91, hh92⟩ hf H locs ls hP hS hl
            unfold f_X12_digest_b104 at hf
            refine lv_iload_n hx hb dX12_digest_104 rfl (lv_at hl 2 rfl) ?_
            refine lv_bipush (v := 6) hx hb dX12_digest_105 (by decide) ?_
            refine lv_icmp_ge (tgt := 127) hx hb dX12_digest_107 (by decide) (fun hc => ?_) (fun hc => ?_)
            · have hf := (OB_t hf hc)
              exact (it_e hf) _ _ _ hP hS (lv_sub hl [0, 1] rfl)
            · have hf := (OB_f hf hc)
              refine lv_aload_n hx hb dX12_digest_110 rfl (lv_at hl 0 rfl) ?_
              refine lv_aload_n hx hb dX12_digest_111 rfl (lv_at hl 0 rfl) ?_
              refine lv_iload_n hx hb dX12_digest_112 rfl (lv_at hl 1 rfl) ?_
              refine lv_iload_n hx hb dX12_digest_113 rfl (lv_at hl 2 rfl) ?_
              refine x_ci0 (rest := [.ref (xa G 132)]) (x_runV C hE hP hS ykX12_distanceOf lkX12_258 sh132 rfl (c_X12_distanceOf (OB_bind hf)) (by decide) rfl hl.1 (Nat.le_of_ble_eq_true rfl) dX12_digest_114) hS (fun r95 H locs hf hP hS => ?_)
              refine lv_i2l hx hb dX12_digest_117 rfl ?_
              refine x_cvk (rest := []) (x_runV C hE hP hS ykX12_tell lkX12_359 sh132 rfl (c_X12_tell (OB_bind hf)) (by decide) rfl hl.1 (Nat.le_of_ble_eq_true rfl) dX12_digest_118) hS (fun hh96 H locs hf hP hS => ?_)
              refine lv_iinc (v := (x91 + 1)) (lv' := [(2, .int (x91 + 1)), (0, .ref (xa G 132)), (1, .int x90)]) hx hb dX12_digest_121 hl (k := 2) rfl rfl (by decide) rfl (fun ls hl => ?_)
              refine lv_goto (tgt := 104) hx hb dX12_digest_124 (by decide) ?_
              exact (it_c hf) _ _ _ hP hS (lv_sub hl [1, 2, 0] rfl)
    · refine (it_W (fun (zz : (Int32 × Int64)) => match zz with | (x30, hh31) => ∀ (H : Heap) (locs : List Loc) (ls : Array Slot), va_P G.1 vwCl (wl G M hh31) H → va_S (Aw G) s.heap H locs → lv_has ls 3 [(0, .ref (xa G 132)), (1, .int x30)] → W p l e rm_X12_digest s m args below meth c H locs 0 0 Q (F0 m 35 ls [])) hf ?_) _ _ _ hP hS (lv_sub hl [1, 0] rfl)
      rintro ⟨x30, hh31⟩ hf H locs ls hP hS hl
      unfold f_X12_digest_b35 at hf
      refine lv_iload_n hx hb dX12_digest_35 rfl (lv_at hl 1 rfl) ?_
      refine lv_aload_n hx hb dX12_digest_36 rfl (lv_at hl 0 rfl) ?_
      refine gfX12_98 C hE hP dX12_digest_37 ?_
      refine lv_icmp_ge (tgt := 92) hx hb dX12_digest_40 (by decide) (fun hc => ?_) (fun hc => ?_)
      · have hf := (OB_t hf hc)
        exact (it_e hf) _ _ _ hP hS (lv_sub hl [0] rfl)
      · have hf := (OB_f hf hc)
        refine lv_aload_n hx hb dX12_digest_43 rfl (lv_at hl 0 rfl) ?_
        refine lv_aload_n hx hb dX12_digest_44 rfl (lv_at hl 0 rfl) ?_
        refine gfX12_13 C hE hP dX12_digest_45 ?_
        refine lv_iload_n hx hb dX12_digest_48 rfl (lv_at hl 1 rfl) ?_
        obtain ⟨g33, hf⟩ := OB_g hf
        refine x_iald C hE hP sh134 g33 dX12_digest_49 ?_
        refine lv_i2l hx hb dX12_digest_50 rfl ?_
        refine x_cvk (rest := []) (x_runV C hE hP hS ykX12_tell lkX12_359 sh132 rfl (c_X12_tell (OB_bind hf)) (by decide) rfl hl.1 (Nat.le_of_ble_eq_true rfl) dX12_digest_51) hS (fun hh34 H locs hf hP hS => ?_)
        refine lv_aload_n hx hb dX12_digest_54 rfl (lv_at hl 0 rfl) ?_
        refine lv_aload_n hx hb dX12_digest_55 rfl (lv_at hl 0 rfl) ?_
        refine gfX12_16 C hE hP dX12_digest_56 ?_
        refine lv_iload_n hx hb dX12_digest_59 rfl (lv_at hl 1 rfl) ?_
        refine x_iald C hE hP sh135 g33 dX12_digest_60 ?_
        refine lv_i2l hx hb dX12_digest_61 rfl ?_
        refine x_cvk (rest := []) (x_runV C hE hP hS ykX12_tell lkX12_359 sh132 rfl (c_X12_tell (OB_bind hf)) (by decide) rfl hl.1 (Nat.le_of_ble_eq_true rfl) dX12_digest_62) hS (fun hh35 H locs hf hP hS => ?_)
        refine lv_aload_n hx hb dX12_digest_65 rfl (lv_at hl 0 rfl) ?_
        refine lv_aload_n hx hb dX12_digest_66 rfl (lv_at hl 0 rfl) ?_
        refine gfX12_19 C hE hP dX12_digest_67 ?_
        refine lv_iload_n hx hb dX12_digest_70 rfl (lv_at hl 1 rfl) ?_
        refine x_iald C hE hP sh136 g33 dX12_digest_71 ?_
        refine lv_i2l hx hb dX12_digest_72 rfl ?_
        refine x_cvk (rest := []) (x_runV C hE hP hS ykX12_tell lkX12_359 sh132 rfl (c_X12_tell (OB_bind hf)) (by decide) rfl hl.1 (Nat.le_of_ble_eq_true rfl) dX12_digest_73) hS (fun hh36 H locs hf hP hS => ?_)
        refine lv_aload_n hx hb dX12_digest_76 rfl (lv_at hl 0 rfl) ?_
        refine lv_aload_n hx hb dX12_digest_77 rfl (lv_at hl 0 rfl) ?_
        refine lv_iload_n hx hb dX12_digest_78 rfl (lv_at hl 1 rfl) ?_
        refine x_ci0 (rest := [.ref (xa G 132)]) (x_runV C hE hP hS ykX12_weight lkX12_134 sh132 rfl (c_X12_weight (OB_bind hf)) (by decide) rfl hl.1 (Nat.le_of_ble_eq_true rfl) dX12_digest_79) hS (fun r37 H locs hf hP hS => ?_)
        refine lv_i2l hx hb dX12_digest_82 rfl ?_
        refine x_cvk (rest := []) (x_runV C hE hP hS ykX12_tell lkX12_359 sh132 rfl (c_X12_tell (OB_bind hf)) (by decide) rfl hl.1 (Nat.le_of_ble_eq_true rfl) dX12_digest_83) hS (fun hh38 H locs hf hP hS => ?_)
        refine lv_iinc (v := (x30 + 1)) (lv' := [(1, .int (x30 + 1)), (0, .ref (xa G 132))]) hx hb dX12_digest_86 hl (k := 1) rfl rfl (by decide) rfl (fun ls hl => ?_)
        refine lv_goto (tgt := 35) hx hb dX12_digest_89 (by decide) ?_
        exact (it_c hf) _ _ _ hP hS (lv_sub hl [1, 0] rfl)
  · refine (it_W (fun (zz : (Int32 × Int64)) => match zz with | (x9, hh10) => ∀ (H : Heap) (locs : List Loc) (ls : Array Slot), va_P G.1 vwCl (wl G M hh10) H → va_S (Aw G) s.heap H locs → lv_has ls 3 [(0, .ref (xa G 132)), (1, .int x9)] → W p l e rm_X12_digest s m args below meth c H locs 0 0 Q (F0 m 9 ls [])) hf ?_) _ _ _ hP hS (lv_sub hl [1, 0] rfl)
    rintro ⟨x9, hh10⟩ hf H locs ls hP hS hl
    unfold f_X12_digest_b9 at hf
    refine lv_iload_n hx hb dX12_digest_9 rfl (lv_at hl 1 rfl) ?_
    refine lv_sipush (v := 128) hx hb dX12_digest_10 (by decide) ?_
    refine lv_icmp_ge (tgt := 33) hx hb dX12_digest_13 (by decide) (fun hc => ?_) (fun hc => ?_)
    · have hf := (OB_t hf hc)
      exact (it_e hf) _ _ _ hP hS (lv_sub hl [0] rfl)
    · have hf := (OB_f hf hc)
      refine lv_aload_n hx hb dX12_digest_16 rfl (lv_at hl 0 rfl) ?_
      refine lv_aload_n hx hb dX12_digest_17 rfl (lv_at hl 0 rfl) ?_
      refine gfX12_7 C hE hP dX12_digest_18 ?_
      refine lv_iload_n hx hb dX12_digest_21 rfl (lv_at hl 1 rfl) ?_
      obtain ⟨g12, hf⟩ := OB_g hf
      refine x_iald C hE hP sh133 g12 dX12_digest_22 ?_
      refine lv_i2l hx hb dX12_digest_23 rfl ?_
      refine x_cvk (rest := []) (x_runV C hE hP hS ykX12_tell lkX12_359 sh132 rfl (c_X12_tell (OB_bind hf)) (by decide) rfl hl.1 (Nat.le_of_ble_eq_true rfl) dX12_digest_24) hS (fun hh13 H locs hf hP hS => ?_)
      refine lv_iinc (v := (x9 + 1)) (lv' := [(1, .int (x9 + 1)), (0, .ref (xa G 132))]) hx hb dX12_digest_27 hl (k := 1) rfl rfl (by decide) rfl (fun ls hl => ?_)
      refine lv_goto (tgt := 9) hx hb dX12_digest_30 (by decide) ?_
      exact (it_c hf) _ _ _ hP hS (lv_sub hl [1, 0] rfl)
